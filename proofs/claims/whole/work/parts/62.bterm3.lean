/-! ===== the reference's beginTerm: a parenthesis ===== -/
section BT3
variable {t : Int → Int} {n : Int} {m mm : PM} {i : Nat} {vs vs' : List (List Int)} {o w cnt v x : Int} {ct cc f : Nat} {μ : am_Mem} {l : PM}
theorem adM_o {c : Nat} {j : Int} (h : ¬ (c = 125 ∧ (j = 28 ∨ j = 29 ∨ j = 30 ∨ j = 31))) : adM m c j = m c j := k_adM (by omega) (by omega) (by omega) (by omega)
theorem BI_skip (hB : BI t n m i vs) (hk : isN (tK t n i) → tW t n i ∈ wdL) : BI t n (adM m) (i + 1) vs := by
  obtain ⟨⟨b1, b2, b3⟩, ⟨b4, b5, b6, b7⟩, ⟨b8, b9, b10⟩, b11, b12, b13⟩ := hB
  have hnt : (nt t n i : Int) ≤ nt t n (i + 1) := by
    show (nt t n i : Int) ≤ ((nt t n i + if isN (tK t n i) then 1 else 0 : Nat) : Int)
    split <;> omega
  exact BI_adv b1 b2 b3 b7 b8 b9 ⟨by omega, by rw [b10.2, LsT_s hk]⟩ (by omega) b12 b13
theorem Top_adM (hT : Top m o w cnt ct cc) : Top (adM m) o w cnt ct cc := by
  unfold Top at hT ⊢
  rw [adM_o (by omega), adM_o (by omega), adM_o (by omega), adM_o (by omega), adM_o (by omega)]
  exact hT
/-- the memory behind an open parenthesis and a name -/
noncomputable def opM (m : PM) : PM := adM (m_within (leB (nmM (adM m) (adM m 125 30) (adM m 125 31)) (nmI (adM m) (adM m 125 30) (adM m 125 31)) (-1)) 5 (m 125 22))
/-- a term with parts has been begun -/
def OP (m m' : PM) (u : List Int) (o w cnt : Int) (ct cc : Nat) : Prop :=
  (∀ c i, ¬ ST (m 125 22) o w cnt ct cc c i → m' c i = m c i) ∧ m' 125 34 = o + 1 ∧ m' 125 22 = m 125 22 + 1 ∧ m' ct (4 * w + cnt) = m 125 22 ∧ m' cc w = m cc w + 1 ∧ m' 144 (o - 1) = cnt + 1 ∧ (nX m' (m' 138 (m 125 22)) u ∧ m' 139 (m 125 22) = -1 ∧ m' 140 (m 125 22) = 0) ∧ (m' 143 o = 5 ∧ m' 144 o = 0 ∧ m' 145 o = m 125 22) ∧ ∀ x w, nX m x w → nX m' x w
theorem within_eq (h : mm 125 34 = o) : m_within mm v x = up (up (up (up mm 143 o v) 144 o 0) 145 o x) 125 34 (o + 1) := by
  unfold m_within
  rw [h]
theorem op_OP (hn : 0 ≤ n ∧ n ≤ 2000) (hB : BI t n m i vs) (hT : Top m o w cnt ct cc) (hk : tK t n i = 1) (hp : pln t n (i + 1)) : OP m (opM m) (tW t n (i + 1)) o w cnt ct cc ∧ BI t n (opM m) (i + 2) vs := by
  have hB1 := BI_skip hB (nN1 (Or.inl hk))
  have hT1 := Top_adM hT
  obtain ⟨a1, a2, a3, a4, a5⟩ := BI_name hn hB1 (Or.inl hp.1)
  have e22 : adM m 125 22 = m 125 22 := adM_o (by omega)
  have hL := leaf_TP (f := 0) (cd := (0, tW t n (i + 1))) (v := (nmI (adM m) (adM m 125 30) (adM m 125 31) : Int)) (x := -1) hT1 (nmM_hs (a := adM m 125 30) (b := adM m 125 31)) a5 (Or.inr ⟨rfl, a1, rfl⟩)
  have hLB := leaf_BI (v := (nmI (adM m) (adM m 125 30) (adM m 125 31) : Int)) (x := -1) hB1 hT1 (nmM_hs (a := adM m 125 30) (b := adM m 125 31)) (Or.inl hp.1) a2 a3 a4 (by
    obtain ⟨_, _, _, _, ⟨b12, b13, b14⟩, _⟩ := hB1
    have r146 : ∀ j, nmM (adM m) (adM m 125 30) (adM m 125 31) 146 j = adM m 146 j := fun j => k_nmM (by decide) (by decide) (by omega)
    refine ⟨by rw [k_nmM (by decide) (by decide) (by decide)]; exact b12, b13, fun j hj => ?_⟩
    rw [r146]
    exact a5 _ _ (b14 j hj))
  generalize hg : leB (nmM (adM m) (adM m 125 30) (adM m 125 31)) (nmI (adM m) (adM m 125 30) (adM m 125 31)) (-1) = g at hL hLB
  have hop : opM m = adM (m_within g 5 (m 125 22)) := by unfold opM; rw [hg]
  have hpp := Top_p hT
  have ho : 1 ≤ o ∧ o ≤ 10 := ⟨hT.1, hT.2.1⟩
  have hw0 : 0 ≤ w ∧ 0 ≤ cnt := ⟨hT.2.2.2.2.2.2.1, hT.2.2.2.2.2.1⟩
  obtain ⟨c1, c2, c3, c4, c5, c6, c7, c8⟩ := hL
  rw [e22] at c1 c3 c4 c7
  have g34 : g 125 34 = o := by rw [← adM_o (m := g) (by omega)]; exact c2
  rw [hop, within_eq g34]
  generalize hW : up (up (up (up g 143 o 5) 144 o 0) 145 o (m 125 22)) 125 34 (o + 1) = g2
  have k2 : ∀ c j, ¬ (c = 125 ∧ (j = 28 ∨ j = 29 ∨ j = 30 ∨ j = 31)) → ¬ (((c = 143 ∨ c = 144 ∨ c = 145) ∧ j = o) ∨ (c = 125 ∧ j = 34)) → adM g2 c j = adM g c j := by
    intro c j h1 h2
    rw [adM_o h1, adM_o h1, ← hW, up_o (by omega), up_o (by omega), up_o (by omega), up_o (by omega)]
  have hX : ∀ x' w', nX (adM g) x' w' → nX (adM g2) x' w' := fun x' w' h => nX_cg (k2 _ _ (by omega) (by omega)) (fun j => k2 _ _ (by omega) (by omega)) (fun j => k2 _ _ (by omega) (by omega)) h
  unfold TmR at c7
  simp only at c7
  rw [if_neg (by decide)] at c7
  obtain ⟨ps, d1, d2, d3, d4, d5, d6, d7⟩ := c7
  refine ⟨⟨fun c j h => ?_, ?_, ?_, ?_, ?_, ?_, ⟨?_, ?_, ?_⟩, ⟨?_, ?_, ?_⟩, fun x' w' h => hX _ _ (c8 _ _ ?_)⟩, ?_⟩
  · have h' := h
    unfold ST at h'
    rw [k2 c j (by omega) (by omega), c1 c j h]
    exact adM_o (by omega)
  · rw [adM_o (by omega), ← hW, up_s]
  · rw [k2 _ _ (by omega) (by omega), c3]
    rfl
  · rcases hpp with ⟨_, rfl, rfl, _⟩ | ⟨_, rfl, rfl⟩
    all_goals
      rw [k2 _ _ (by omega) (by omega)]
      exact c4
  · rcases hpp with ⟨_, rfl, rfl, _⟩ | ⟨_, rfl, rfl⟩
    all_goals
      rw [k2 _ _ (by omega) (by omega), c5]
      rw [adM_o (by omega)]
  · rw [k2 _ _ (by omega) (by omega)]
    exact c6
  · rw [k2 _ _ (by omega) (by omega)]
    exact hX _ _ d3
  · rw [k2 _ _ (by omega) (by omega)]
    exact d4
  · rw [k2 _ _ (by omega) (by omega), d5]
    rfl
  · rw [adM_o (by omega), ← hW, up_c (by decide), up_c (by decide), up_c (by decide), up_s]
  · rw [adM_o (by omega), ← hW, up_c (by decide), up_c (by decide), up_s]
  · rw [adM_o (by omega), ← hW, up_c (by decide), up_s]
  · exact nX_cg (adM_o (by omega)) (fun j => adM_o (by omega)) (fun j => adM_o (by omega)) h
  · have hE : ∀ c j, ¬ (((c = 143 ∨ c = 144 ∨ c = 145) ∧ j = o) ∨ (c = 125 ∧ j = 34)) → g2 c j = g c j := by
      intro c j h2
      rw [← hW, up_o (by omega), up_o (by omega), up_o (by omega), up_o (by omega)]
    -- the token's fields rest on the text and the last end alone
    have tok : ∀ j, (j = 28 ∨ j = 29 ∨ j = 30 ∨ j = 31) → adM g2 125 j = adM g 125 j := by
      have e1 : g2 128 = g 128 := funext fun j => hE _ _ (by omega)
      have e2 : g2 125 8 = g 125 8 := hE _ _ (by omega)
      have e3 : g2 125 31 = g 125 31 := hE _ _ (by omega)
      intro j hj
      unfold adM
      rw [e1, e2, e3]
      rcases hj with rfl | rfl | rfl | rfl
      · rw [up_s, up_s]
      · rw [up_i (by decide), up_i (by decide), up_i (by decide), up_s, up_i (by decide), up_i (by decide), up_i (by decide), up_s]
      · rw [up_i (by decide), up_i (by decide), up_s, up_i (by decide), up_i (by decide), up_s]
      · rw [up_i (by decide), up_s, up_i (by decide), up_s]
    obtain ⟨⟨b1, b2, b3⟩, ⟨b4, b5, b6, b7⟩, ⟨b8, b9, b10⟩, b11, ⟨b12, b13, b14⟩, b15⟩ := hLB
    have f9 := k2 125 9 (by omega) (by omega)
    have f129 : ∀ j, adM g2 129 j = adM g 129 j := fun j => k2 _ _ (by omega) (by omega)
    have f130 : ∀ j, adM g2 130 j = adM g 130 j := fun j => k2 _ _ (by omega) (by omega)
    refine ⟨⟨?_, by rw [k2 _ _ (by omega) (by omega)]; exact b2, TX_cg (k2 _ _ (by omega) (by omega)) (fun j => k2 _ _ (by omega) (by omega)) b3⟩, ⟨by rw [tok 28 (by omega)]; exact b4, by rw [tok 29 (by omega)]; exact b5, by rw [tok 30 (by omega)]; exact b6, by rw [tok 31 (by omega)]; exact b7⟩, ⟨NmW_cg f9 f129 f130 b8, NmD_cg f9 f129 f130 b9, ⟨by rw [f9]; exact b10.1, by rw [nmL_cg f9 f129 f130]; exact b10.2⟩⟩, by rw [k2 _ _ (by omega) (by omega)]; exact b11, ⟨by rw [k2 _ _ (by omega) (by omega)]; exact b12, b13, fun j hj => ?_⟩, by rw [k2 _ _ (by omega) (by omega)]; exact b15⟩
    · rw [← b1]
      funext j
      exact k2 _ _ (by omega) (by omega)
    · rw [k2 _ _ (by omega) (by omega)]
      exact hX _ _ (b14 j hj)
theorem bt_open (H : RS μ) (hn : 0 ≤ n ∧ n ≤ 2000) (hB : BI t n m i vs) (hT : Top m o w cnt ct cc) (hk : tK t n i = 1) (ho : o < 10) (hp : pln t n (i + 1)) (d : Nat) : Wp (d + 5) 178 (0, [some (.ref 125), none], [], sA μ m l) (pV (fun μ' => μ' = sA μ (opM m) l) noX) := by
  have hB1 := BI_skip hB (nN1 (Or.inl hk))
  have hT1 := Top_adM hT
  obtain ⟨a1, a2, a3, a4, a5⟩ := BI_name hn hB1 (Or.inl hp.1)
  have hg := BI_gN hn hB1 (Or.inl hp.1)
  have hpl := BI_plain hn hB1 hp.1
  have hpl0 := BI_plain0 hB (by omega)
  have hnt := nt_le (t := t) hn i
  have h31 := BI_31 hn.1 hB
  have h31' := BI_31 hn.1 hB1
  have e22 : adM m 125 22 = m 125 22 := adM_o (by omega)
  have hS := leB_s (v := (nmI (adM m) (adM m 125 30) (adM m 125 31) : Int)) (x := -1) hT1 (nmM_hs (a := adM m 125 30) (b := adM m 125 31))
  have hpp := Top_p hT
  have h34 := hT.2.2.1
  have ho1 := hT.1
  obtain ⟨⟨b1, b2, b3⟩, ⟨b4, b5, b6, b7⟩, ⟨b8, b9, b10⟩, b11, b12, b13⟩ := hB
  obtain ⟨⟨c1, c2, c3⟩, ⟨c4, c5, c6, c7⟩, ⟨c8, c9, c10⟩, c11, c12, c13⟩ := hB1
  have hR := tK_R t n i
  rw [← b4] at hR
  have hk1 : m 125 28 = 1 := b4.trans hk
  have hR1 := tK_R t n (i + 1)
  rw [← c4] at hR1
  have vo : v_opens m = 1 := if_pos (by omega)
  have mo : m_opens m = adM m := if_pos (by omega)
  refine R178_0 H ⟨hR, fun _ => ⟨hR, ⟨fun z => absurd z (by omega), fun _ => trivial⟩, ?_⟩, fun z => absurd z (by omega)⟩
  rintro m1 e1
  rw [hpl0.2] at e1
  subst e1
  refine ⟨fun _ => ⟨hR, fun _ => ⟨by omega, ⟨fun _ => ⟨b3, h31⟩, fun z => absurd z (by omega)⟩, ?_⟩, fun z => absurd hk1 z⟩, fun z => absurd hpl0.1 z⟩
  rintro m2 e2
  rw [mo] at e2
  subst e2
  refine ⟨fun z => absurd z (by rw [vo]; decide), fun _ => ⟨hR1, ⟨fun _ => ⟨c3, c8, hg⟩, fun _ => trivial⟩, ?_⟩⟩
  rintro m3 e3
  rw [hpl.2] at e3
  refine ⟨fun _ => ?_, fun z => absurd (fun y => hpl.1.mp y hp) z⟩
  have r30 : nmM (adM m1) (adM m1 125 30) (adM m1 125 31) 125 30 = adM m1 125 30 := k_nmM (by decide) (by decide) (by decide)
  have r31 : nmM (adM m1) (adM m1 125 30) (adM m1 125 31) 125 31 = adM m1 125 31 := k_nmM (by decide) (by decide) (by decide)
  have r8 : nmM (adM m1) (adM m1 125 30) (adM m1 125 31) 125 8 = adM m1 125 8 := k_nmM (by decide) (by decide) (by decide)
  have r128 : nmM (adM m1) (adM m1 125 30) (adM m1 125 31) 128 = adM m1 128 := funext fun j => k_nmM (by decide) (by decide) (by omega)
  have h2 := nmM_2 (a := adM m1 125 30) (b := adM m1 125 31) a3 (by
    have e : sl (nmM (adM m1) (adM m1 125 30) (adM m1 125 31) 128) (adM m1 125 30) (adM m1 125 31 - adM m1 125 30).toNat = tW t n (i + 1) := by
      unfold tW
      rw [r128, c1, c6, c7]
    rw [e]
    exact a1)
  rw [← e3] at r30 r31 r8 r128 h2 a2
  rw [r30, r31]
  refine ⟨TX_cg r8 (fun j => congrFun r128 j) c3, a2, hg, ?_⟩
  rintro m4 rfl v5 rfl
  rw [h2.1, h2.2]
  rw [e3]
  refine bt_tail (C := fun m8 v7 => (0 ≤ (m8 125 34) ∧ (m8 125 34) < 11) ∧ (∀ m9 : PM, m9 = m_within m8 5 v7 → (0 ≤ m9 125 31 ∧ m9 125 31 ≤ m9 125 8) ∧ (∀ m10 : PM, m10 = adM m9 → pV (fun μ' => μ' = sA μ (opM m1) l) noX (.inl none) (sA μ m10 l)))) hT1 nmM_hs (by rw [e22]; omega) ?_
  have g34 : leB (nmM (adM m1) (adM m1 125 30) (adM m1 125 31)) (nmI (adM m1) (adM m1 125 30) (adM m1 125 31)) (-1) 125 34 = o := by
    rw [hS _ _ (by rcases hpp with ⟨_, rfl, rfl, _⟩ | ⟨_, rfl, rfl⟩ <;> omega), k_nmM (by decide) (by decide) (by decide), adM_o (by omega)]
    exact h34
  rw [e22]
  refine ⟨by rw [g34]; omega, ?_⟩
  rintro m9 rfl
  refine ⟨?_, fun m10 e10 => ?_⟩
  · rw [within_eq g34, up_i (by decide), up_c (by decide), up_c (by decide), up_c (by decide), up_i (by decide), up_c (by decide), up_c (by decide), up_c (by decide), hS _ _ (by rcases hpp with ⟨_, rfl, rfl, _⟩ | ⟨_, rfl, rfl⟩ <;> omega), hS _ _ (by rcases hpp with ⟨_, rfl, rfl, _⟩ | ⟨_, rfl, rfl⟩ <;> omega), k_nmM (by decide) (by decide) (by decide), k_nmM (by decide) (by decide) (by decide)]
    exact h31'
  · show _ = _
    rw [e10]
    rfl
end BT3
