/-! ===== the reference: exploreAll ===== -/
section REZ
variable {d : Nat} {μ : am_Mem} {Q : Option Value ⊕ Nat → am_Mem → Prop} {W : Int → Nat} {rs : List Rul} {L : List (List Cd)}
theorem c_exploreAll {m0 l0 : PM} (H : RS μ) (hg : GoS rs) (hR : ∀ B, Evb rs B → ∀ r, r < L.length → tlC (L.getD r []) ≤ 48) (hB : BsR W rs L m0)
    (hok : ∀ (m' l' : PM) (sts : List (List (List Cd))) (nx : List (List Nat)), xO rs L = some (sts, nx) → BsR W rs L m' → XpR rs L m' sts nx → nx.length = sts.length → (∀ c j, ¬ WXp c j → m' c j = m0 c j) → (∀ c j, ¬ (c = 125 ∧ j = 57) → l' c j = l0 c j) → Q (.inl (some (.int (zI 1)))) (sA μ m' l'))
    (hX : ∀ m' l' : PM, xO rs L = none → BsR W rs L m' → (∀ c j, ¬ WXp c j → m' c j = m0 c j) → (∀ c j, ¬ (c = 125 ∧ j = 57) → l' c j = l0 c j) → Q (.inl (some (.int (zI 0)))) (sA μ m' l')) :
    Wp (d + 11) 254 (0, [some (.ref 125), none, none, none], [], sA μ m0 l0) Q := by
  have loop : ∀ (f n : Nat) (m l : PM) (sts : List (List (List Cd))) (tot : Nat) (nx : List (List Nat)), n + f = 300 → nx.length = n → BsR W rs L m → XpR rs L m sts nx → tot ≤ 30000000 → xN rs L f n sts tot nx = xO rs L → (∀ c j, ¬ WXp c j → m c j = m0 c j) → (∀ c j, ¬ (c = 125 ∧ j = 57) → l c j = l0 c j) → Wp (d + 11) 254 (39, [some (.ref 125), some (.long (zL (tot : Int))), none, some (.int (zI (n : Int)))], [], sA μ m l) Q := by
    intro f
    induction f with
    | zero =>
      intro n m l sts tot nx hn hnx hBm hXm ht hres fr frl
      obtain ⟨a1, a2, a3⟩ := hXm.1
      refine R254_39 H ⟨⟨by omega, by omega⟩, by rw [a1]; exact ⟨by omega, by omega⟩, fun _ => ?_, fun z => by rw [a1] at z; omega⟩
      exact hok m l sts nx hres.symm hBm hXm (by omega) fr frl
    | succ f ih =>
      intro n m l sts tot nx hn hnx hBm hXm ht hres fr frl
      obtain ⟨a1, a2, a3⟩ := id hXm.1
      refine R254_39 H ⟨⟨by omega, by omega⟩, by rw [a1]; exact ⟨by omega, by omega⟩, fun z => ?_, fun z => ?_⟩
      · have hle : sts.length ≤ n := by rw [a1] at z; omega
        have e : xN rs L (f + 1) n sts tot nx = some (sts, nx) := if_pos hle
        exact hok m l sts nx (hres.symm.trans e) hBm hXm (by omega) fr frl
      · have hlt : n < sts.length := by rw [a1] at z; omega
        refine ⟨fun y μ' => Wp (d + 11) 254 (53, [some (.ref 125), some (.long (zL (tot : Int))), none, some (.int (zI (n : Int)))], [.int y], μ') Q, noX, ?_, fun _ _ z => z, fun _ _ z => z.elim⟩
        refine c_expand (d := d) (Q := pI _ noX) (W := W) (rs := rs) (L := L) (n := n) (tot := tot) (sts := sts) (nx := nx) H hg hR hBm hXm hnx hlt ht (fun m' l' sts' tot' ns hS hJ hB' hX' ht' e57 fr' frl' => ?_) (fun m' l' hno hB' fr' frl' => ?_)
        · refine R254_53 H ⟨⟨by decide, by decide⟩, fun _ => ?_, fun z => absurd (by decide) z⟩
          rw [e57]
          have e : xN rs L (f + 1) n sts tot nx = xN rs L f (n + 1) sts' tot' (nx ++ [ns]) := by
            show (if sts.length ≤ n then _ else _) = _
            rw [if_neg (by omega), if_pos hS, hJ]
          have go := ih (n + 1) m' l' sts' tot' (nx ++ [ns]) (by omega) (by simp; exact hnx) hB' hX' ht' (e.symm.trans hres) (fun c j z => by rw [fr' c j z]; exact fr c j z) (fun c j z => by rw [frl' c j z]; exact frl c j z)
          rw [show ((n + 1 : Nat) : Int) = (n : Int) + 1 by omega] at go
          exact go
        · refine R254_53 H ⟨⟨by decide, by decide⟩, fun z => absurd rfl z, fun _ => ?_⟩
          refine hX m' l' ?_ hB' (fun c j z => by rw [fr' c j z]; exact fr c j z) (fun c j z => by rw [frl' c j z]; exact frl c j z)
          rw [← hres]
          show (if sts.length ≤ n then _ else _) = _
          rw [if_neg (by omega)]
          by_cases hS : okS rs L (sts.getD n []) tot
          · rw [if_pos hS, hno hS]
          · rw [if_neg hS]
  refine R254_0 H ?_
  rintro m1 e1
  have f1 : ∀ c j, ¬ (c = 125 ∧ j = 83) → m1 c j = m0 c j := fun c j z => by rw [e1]; exact up_o z
  have e83 : m1 125 83 = 0 := by rw [e1, up_s]
  have hB1 : BsR W rs L m1 := BsR_cg hB (fun c i z => f1 c i (by omega))
  refine ⟨fun y μ' => Wp (d + 11) 254 (11, [some (.ref 125), none, none, none], [.int y], μ') Q, noX, ?_, fun _ _ z => z, fun _ _ z => z.elim⟩
  refine c_evaluate (d := d + 1) (Q := pI _ noX) (W := W) (rs := rs) (x1 := -1) (x2 := 0) (st := []) (L := L) (ch := []) H hg hB1.1 hB1.2.1 hB1.2.2.1 hB1.2.2.2.1 (Or.inl ⟨rfl, rfl⟩) hB1.2.2.2.2 (Or.inl rfl) (fun m2 l2 T S hE hw2 h48' hT e56 e75 e57 f2 fl2 => ?_) (fun m2 l2 T S hno hw2 e75 f2 fl2 => ?_)
  · have hB2 : BsR W rs L m2 := BsR_of hB1 (hw2.2.1.2.2.1) hw2.2.2.2.2.2.2 (fun c i z => f2 c i (by omega))
    have hx3 : nX m2 3 (wdL.getD 3 []) := nX_wdR hw2.1 (by decide)
    have hW3 : W 3 = 1 := by
      rw [hB2.2.1 3 _ hx3, wdt_own hg (by decide)]
      decide
    have hcn : cnO rs (baA 0 [] L []) (wdL.getD 3 []) = cntA S (wdL.getD 3 []) := Ev_cn hg hE _
    have hwk : wkO rs (baA 0 [] L []) = smR S rs := Ev_wk hg hE
    have hwle := wkO_le (B := baA 0 [] L []) hg
    refine R254_11 H ⟨⟨by decide, by decide⟩, fun z => absurd z (by decide), fun _ => ⟨fun y μ' => Wp (d + 11) 254 (22, [some (.ref 125), none, none, none], [.int y], μ') Q, noX, ?_, fun _ _ z => z, fun _ _ z => z.elim⟩⟩
    refine c_gather (d := d + 8) (Q := pI _ noX) (W := W) (rs := rs) (S := S) (x := 3) (i := 301) (w := wdL.getD 3 []) H hw2 hE.2.2.2.1 h48' hx3 hW3 ⟨by decide, by decide⟩ (fun m3 s hsr hsl hs60 hsm hs3 f3 => ?_) (fun m3 hgt f3 => ?_)
    · have es : s = s0O rs L := lsO_eq hsr (fun t => (hsm t).trans (Ev_hld hg hE _).symm)
      have hB3 : BsR W rs L m3 := BsR_cg hB2 (fun c i z => f3 c i (by omega))
      have e383 : m3 125 83 = 0 := by rw [f3 _ _ (by omega), f2 _ _ (by omega)]; exact e83
      have hX3 : XpR rs L m3 [] [] := ⟨⟨e383, by decide, Nat.le_refl _⟩, fun i hi => absurd hi (Nat.not_lt_zero i), fun i hi => absurd hi (Nat.not_lt_zero i)⟩
      have h0 : ok0 rs L := ⟨⟨S, hE⟩, by rw [hcn]; omega⟩
      refine R254_22 H ⟨⟨by decide, by decide⟩, fun _ => ⟨fun y μ' => Wp (d + 11) 254 (36, [some (.ref 125), some (.long (zL (l2 125 57))), none, none], [.int y], μ') Q, noX, ?_, fun _ _ z => z, fun _ _ z => z.elim⟩, fun z => absurd (by decide) z⟩
      rw [e57, ← hwk]
      refine c_number (d := d + 9) (Q := pI _ noX) (sts := []) (s := s) H hX3.1.1 (by decide) hX3.2.1 hs3 (fun hin => absurd hin List.not_mem_nil) (fun _ he => absurd he (by decide)) (fun m4 hno hlt h83 hs4 f4 => ?_)
      have hX4 := XpR_add hX3 hlt h83 hs4 f4
      refine R254_36 H ?_
      refine loop 300 0 m4 l2 [s] (wkO rs (baA 0 [] L [])) [] rfl rfl (BsR_cg hB3 (fun c i z => f4 c i (by omega))) hX4 (by omega) ?_ (fun c j z => ?_) fl2
      · rw [es]
        exact (if_pos h0).symm
      · have z1 : ¬ ((c = 125 ∧ j = 83) ∨ (c = 172 ∧ j = ((([] : List (List (List Cd))).length : Nat) : Int)) ∨ (c = 171 ∧ 2940 * ((([] : List (List (List Cd))).length : Nat) : Int) ≤ j ∧ j < 2940 * ((([] : List (List (List Cd))).length : Nat) : Int) + 2940)) := by
          show ¬ ((c = 125 ∧ j = 83) ∨ (c = 172 ∧ j = ((0 : Nat) : Int)) ∨ (c = 171 ∧ 2940 * ((0 : Nat) : Int) ≤ j ∧ j < 2940 * ((0 : Nat) : Int) + 2940))
          omega
        rw [f4 c j z1, f3 c j (by omega), f2 c j (by omega)]
        exact f1 c j (by omega)
    · refine R254_22 H ⟨⟨by decide, by decide⟩, fun z => absurd rfl z, fun _ => ?_⟩
      refine hX m3 l2 (if_neg (fun z => ?_)) (BsR_cg hB2 (fun c i z => f3 c i (by omega))) (fun c j z => by rw [f3 c j (by omega), f2 c j (by omega)]; exact f1 c j (by omega)) fl2
      have := z.2
      omega
  · refine R254_11 H ⟨⟨by decide, by decide⟩, fun _ => ?_, fun z => absurd rfl z⟩
    exact hX m2 l2 (if_neg (fun z => hno z.1)) (BsR_of hB1 (hw2.2.1.2.2.1) hw2.2.2.2.2.2.2 (fun c i z => f2 c i (by omega))) (fun c j z => by rw [f2 c j (by omega)]; exact f1 c j (by omega)) fl2
end REZ
