/-! ===== the class's sign ===== -/
section CSG
variable {d : Nat} {Q : Option Value ⊕ Nat → am_Mem → Prop} {X : Int → List Int → Prop} {W : Int → Nat} {s q e T N0 : Nat} {rs : List Rul} {μ : am_Mem} {m l : PM} {st : Option (List (List Cd))} {L : List (List Cd)} {x1 x2 x3 : Int}
theorem rl_gd (hgo : GoS rs) (hB : ClB X W s rs q m T N0) {r : Nat} (hr : r < (rlS rs).length) : GdC ((rlS rs).getD r []) ∧ (tx ((rlS rs).getD r [])).length ≤ 5000 ∧ ((rlS rs).getD r []).length ≤ 2000 := by
  obtain ⟨⟨b1, b2, b3, b4⟩, b5, b6, b7, ⟨b8, b9⟩, b10, b11, b12⟩ := id hB
  obtain ⟨u, _, _, cu⟩ := b9 r hr
  have hm : (rlS rs).getD r [] ∈ rlS rs := gD_in hr
  rcases rlS_m rs [] hm with h | ⟨ru, hru, h1, h2⟩
  · exact absurd h List.not_mem_nil
  · generalize (rlS rs).getD r [] = p at *
    have hru2 : ru.1.2.length = 1 := by
      obtain ⟨k, hk, ek⟩ := (mem_gD rs ruD ru).mp hru
      have hb := (chF_ok hgo.2.2.2.2).1 k hk
      have z := (role_ok hb.1 hb.2.1 (by rw [ek]; exact h1)).1
      rw [ek] at z
      exact z
    have hp : p ∈ ru.1.2 := by
      rw [← h2]
      exact gD_in (by omega)
    have g := Cg_gd cu (hgo.2.2.2.1 ru hru p hp)
    have w := hgo.2.2.1 ru hru p hp
    obtain ⟨⟨f, hf⟩, hg, hn⟩ := id g
    have a1 := tl_tx f p hf hg
    have a2 := tl_wn p
    have a3 := nC_wf f p hf hg
    exact ⟨g, by omega, by omega⟩
theorem sgC_arg (h : ¬ (0 ≤ x1 ∧ x1 ≤ 5)) : sgO rs L st x1 x2 x3 = (2, 0) := by
  unfold sgO
  rw [if_pos h]
theorem sgC_5 : sgO rs L st 5 x2 x3 = if (0 ≤ x2 ∧ x2 < (L.length : Int)) ∧ 0 ≤ x3 then (0, (tx (L.getD x2.toNat [])).getD x3.toNat 0) else (3, 0) := by
  unfold sgO
  rw [if_neg (by decide), if_pos rfl]
theorem sgC_n (h : 0 ≤ x1 ∧ x1 < 5) : sgO rs L none x1 x2 x3 = (1, 0) := by
  unfold sgO
  rw [if_neg (by omega), if_neg (by omega)]
theorem sgC_0 {s' : List (List Cd)} : sgO rs L (some s') 0 x2 x3 = if (0 ≤ x2 ∧ x2 < (s'.length : Int)) ∧ 0 ≤ x3 then (0, (tx (s'.getD x2.toNat [])).getD x3.toNat 0) else (3, 0) := by
  unfold sgO
  rw [if_neg (by decide), if_neg (by decide)]
  rfl
theorem sgC_m {s' : List (List Cd)} (h : 1 ≤ x1 ∧ x1 < 5) : sgO rs L (some s') x1 x2 x3 = if ¬ (x1 - 1 < (L.length : Int)) ∨ x2 < 0 ∨ x3 < 0 then (3, 0) else cif (Evb rs (baA 0 s' L [])) (if x2 < ((mvO rs L s' (x1 - 1).toNat).length : Int) then (0, (tx ((mvO rs L s' (x1 - 1).toNat).getD x2.toNat [])).getD x3.toNat 0) else (3, 0)) (4, 0) := by
  unfold sgO
  rw [if_neg (by omega), if_neg (by omega)]
  show (if x1 = 0 then _ else _) = _
  rw [if_neg (by omega)]
/-- how a fault of the reference stands for a throw -/
abbrev SgX (c : Int) (k : Nat) : Prop := (c = 2 ∧ k = 0) ∨ (c = 1 ∧ k = 1) ∨ (c = 3 ∧ k = 2) ∨ (c = 4 ∧ k = 3)
theorem kl_sign (hS : ShX s μ q e) (hs : s = 22 ∨ s = 42) (hgo : GoS rs) (hI : ClI X W s rs q m N0 st) (h6 : m 16 6 = 1) (hx1 : iR x1) (hx2 : iR x2) (hx3 : iR x3)
    (hok : ∀ (μ' : am_Mem) (m' l' : PM) (q' : Nat), (sgO rs (rlS rs) st x1 x2 x3).1 = 0 → Gx μ q e μ' q' e → ShX s μ' q' e → ClI X W s rs q' m' N0 st → (∀ c j, c < am_n μ → ¬ WCs q c j → m' c j = m c j) → (∀ c j, c < am_n μ → ¬ (c = 70 ∧ j = 16) → l' c j = l c j) → Q (.inl (some (.int (zI (sgO rs (rlS rs) st x1 x2 x3).2)))) (sA μ' m' l'))
    (hthr : ∀ (k : Nat) (μ' : am_Mem) (m' l' : PM) (q' : Nat), SgX (sgO rs (rlS rs) st x1 x2 x3).1 k → Gx μ q e μ' q' e → ShX s μ' q' e → ClI X W s rs q' m' N0 st → (∀ c j, c < am_n μ → ¬ WCs q c j → m' c j = m c j) → (∀ c j, c < am_n μ → ¬ (c = 70 ∧ j = 16) → l' c j = l c j) → Q (.inr k) (sA (am_nX μ') m' l')) :
    Wp (d + 16) 134 (0, [some (.ref 16), some (.int (zI x1)), some (.int (zI x2)), some (.int (zI x3))], [], sA μ m l) Q := by
  obtain ⟨⟨s1, s2, s3, s4, s5, s6⟩, ⟨y1, y2⟩, _, _, x7⟩ := id hS
  obtain ⟨e12n, e12s, e4⟩ := ClI_12 hI
  have hn4 := (rlS_ok rs).2
  have ha : s + 1 = 23 ∨ s + 1 = 43 := by rcases hs with h | h <;> rw [h] <;> decide
  have hx1' : -2147483648 ≤ x1 ∧ x1 ≤ 2147483647 := hx1
  have hx2' : -2147483648 ≤ x2 ∧ x2 ≤ 2147483647 := hx2
  have hx3' : -2147483648 ≤ x3 ∧ x3 ≤ 2147483647 := hx3
  have thr : ∀ k, SgX (sgO rs (rlS rs) st x1 x2 x3).1 k → Q (.inr k) (sA (am_nX μ) m l) := fun k hk => hthr k μ m l q hk Gx_r hS hI (fun _ _ _ _ => rfl) (fun _ _ _ _ => rfl)
  obtain ⟨T, hB, _⟩ := id hI
  obtain ⟨⟨b1, b2, b3, b4⟩, b5, b6, b7, ⟨b8, b9⟩, b10, b11, b12⟩ := id hB
  refine K134_0 s1 s2 (TQ_q s3) hs s5 ⟨fun μ' => Wp (d + 16) 134 (4, [some (.ref 16), some (.int (zI x1)), some (.int (zI x2)), some (.int (zI x3))], [], μ') Q, noX, K124_0 s1 ⟨by rw [h6]; exact iR_1, fun _ => ?_, fun z => absurd (fun y => absurd (h6.symm.trans y) (by decide)) z⟩, fun _ h => h, fun _ _ z => z.elim⟩
  show Wp (d + 16) 134 (4, [some (.ref 16), some (.int (zI x1)), some (.int (zI x2)), some (.int (zI x3))], [], sA μ m l) Q
  refine K134_4 s1 s2 (TQ_q s3) hs s5 ⟨hx1, fun z => thr 0 (Or.inl ⟨by rw [sgC_arg (by omega)], rfl⟩), fun z1 => ⟨fun z2 => ⟨fun z3 => ?_, fun z3 => ?_⟩, fun z2 => thr 0 (Or.inl ⟨by rw [sgC_arg (by omega)], rfl⟩)⟩⟩
  · -- a role's sign
    obtain rfl : x1 = 5 := by omega
    refine ⟨hx2, fun z => thr 2 (Or.inr (Or.inr (Or.inl ⟨by rw [sgC_5, if_neg (by omega)], rfl⟩))), fun z4 => ⟨hx3, fun z5 => ⟨fun _ => ⟨fun z => absurd rfl z, fun _ => ?_⟩, fun z => absurd (by decide) z⟩, fun z => thr 2 (Or.inr (Or.inr (Or.inl ⟨by rw [sgC_5, if_neg (by omega)], rfl⟩)))⟩⟩
    refine ⟨fun μ' => Wp (d + 16) 134 (100, [some (.ref 16), some (.int (zI 5)), some (.int (zI x2)), some (.int (zI x3))], [], μ') Q, fun x μ' => Q (.inr x) μ', k_needRo s1 hx2 e4 (fun z => thr 2 (Or.inr (Or.inr (Or.inl ⟨by rw [sgC_5, if_neg (by omega)], rfl⟩)))) (fun z => ?_), fun _ h => h, fun _ _ h => h⟩
    show Wp (d + 16) 134 (100, [some (.ref 16), some (.int (zI 5)), some (.int (zI x2)), some (.int (zI x3))], [], sA μ m l) Q
    obtain ⟨i, rfl⟩ : ∃ i : Nat, x2 = (i : Int) := ⟨x2.toNat, by omega⟩
    have hi : i < (rlS rs).length := by omega
    obtain ⟨u, u1, u2, u3⟩ := b9 i hi
    obtain ⟨g1, g2, g3⟩ := rl_gd hgo hB hi
    have hNT : N0 ≤ T := by
      obtain ⟨T', hB', h⟩ := hI
      have e1 := hB'.2.2.1.1.1
      have e2 := b6.1.1
      have eT : T' = T := by omega
      subst eT
      rcases h with ⟨_, e, _⟩ | ⟨_, _, _, _, _, _, _, _, h1, h2, h3, _⟩ | ⟨_, h1, _⟩
      · omega
      · omega
      · exact h1
    rw [Int.zero_add] at u1
    refine K134_100 s1 s2 (TQ_q s3) hs s5 ⟨⟨by omega, by omega⟩, ?_⟩
    rw [u1]
    refine ⟨fun x μ' => Wp (d + 16) 134 (120, [some (.ref 16), some (.int (zI 5)), some (.int (zI (i : Int))), some (.int (zI x3))], [.int x], μ') Q, noX, ?_, fun _ _ h => h, fun _ _ z => z.elim⟩
    refine k_signAt (d := d + 14) (Q := pI _ noX) s1 s2 (TQ_q s3) ha s6 b1.2.1 b5 b6 (Nat.lt_of_lt_of_le u2 hNT) u3 g1 g2 g3 ⟨z5, hx3'.2⟩ ?_
    show Wp (d + 16) 134 (120, [some (.ref 16), some (.int (zI 5)), some (.int (zI (i : Int))), some (.int (zI x3))], [.int (zI _)], sA μ m l) Q
    refine K134_120 s1 s2 (TQ_q s3) hs s5 ?_
    have hsg : sgO rs (rlS rs) st 5 (i : Int) x3 = (0, (tx ((rlS rs).getD i [])).getD x3.toNat 0) := by
      rw [sgC_5, if_pos ⟨by omega, z5⟩, Int.toNat_natCast]
    have := hok μ m l q (by rw [hsg]) Gx_r hS hI (fun _ _ _ _ => rfl) (fun _ _ _ _ => rfl)
    rw [hsg] at this
    exact this
  · -- a term's of the state, or a move's
    refine ⟨fun μ' => Wp (d + 16) 134 (32, [some (.ref 16), some (.int (zI x1)), some (.int (zI x2)), some (.int (zI x3))], [], μ') Q, fun x μ' => Q (.inr x) μ', k_needSt s1 (ClI_60 hI) (fun y => ?_) (fun y => ?_), fun _ h => h, fun _ _ h => h⟩
    · cases st with
      | none => exact thr 1 (Or.inr (Or.inl ⟨by rw [sgC_n (by omega)], rfl⟩))
      | some L =>
        have := e12s L rfl
        omega
    · cases st with
      | none => exact absurd (e12n rfl) y
      | some L =>
        show Wp (d + 16) 134 (32, [some (.ref 16), some (.int (zI x1)), some (.int (zI x2)), some (.int (zI x3))], [], sA μ m l) Q
        have e12 := e12s L rfl
        have bad : x2 < 0 ∨ x3 < 0 → (sgO rs (rlS rs) (some L) x1 x2 x3).1 = 3 := fun h => by
          by_cases y0 : x1 = 0
          · rw [y0, sgC_0, if_neg (by omega)]
          · rw [sgC_m (by omega), if_pos (Or.inr h)]
        refine K134_32 s1 s2 (TQ_q s3) hs s5 ⟨hx2, fun z => thr 2 (Or.inr (Or.inr (Or.inl ⟨bad (Or.inl z), rfl⟩))), fun z4 => ⟨hx3, fun z5 => ⟨hx1, fun z6 => ⟨fun z7 => ?_, fun z7 => absurd (Classical.byContradiction z7) (by omega)⟩, fun z6 => ?_⟩, fun z => thr 2 (Or.inr (Or.inr (Or.inl ⟨bad (Or.inr (by omega)), rfl⟩)))⟩⟩
        · -- a move's
          refine ⟨fun μ' => Wp (d + 16) 134 (128, [some (.ref 16), some (.int (zI x1)), some (.int (zI x2)), some (.int (zI x3))], [], μ') Q, fun x μ' => Q (.inr x) μ', k_needRo s1 ⟨by omega, by omega⟩ e4 (fun z => thr 2 (Or.inr (Or.inr (Or.inl ⟨by rw [sgC_m (by omega), if_pos (Or.inl (by omega))], rfl⟩)))) (fun z => ?_), fun _ h => h, fun _ _ h => h⟩
          show Wp (d + 16) 134 (128, [some (.ref 16), some (.int (zI x1)), some (.int (zI x2)), some (.int (zI x3))], [], sA μ m l) Q
          have hsg : sgO rs (rlS rs) (some L) x1 x2 x3 = cif (Evb rs (baA 0 L (rlS rs) [])) (if x2 < ((mvO rs (rlS rs) L (x1 - 1).toNat).length : Int) then (0, (tx ((mvO rs (rlS rs) L (x1 - 1).toNat).getD x2.toNat [])).getD x3.toNat 0) else (3, 0)) (4, 0) := by
            rw [sgC_m (by omega), if_neg (by omega)]
          refine K134_128 s1 s2 (TQ_q s3) hs s5 ⟨fun μ' => Wp (d + 16) 134 (132, [some (.ref 16), some (.int (zI x1)), some (.int (zI x2)), some (.int (zI x3))], [], μ') Q, fun x μ' => Q (.inr x) μ', ?_, fun _ h => h, fun _ _ h => h⟩
          refine kl_look (d := d) (Q := pV _ _) hS hs hgo hI (fun μ1 m1 l1 q1 hE G1 S1 hK f1 fl1 => ?_) (fun μ1 m1 l1 q1 hE G1 S1 hI1 f1 fl1 => hthr 3 μ1 m1 l1 q1 (Or.inr (Or.inr (Or.inr ⟨by rw [hsg, cif_n hE], rfl⟩))) G1 S1 hI1 f1 fl1)
          show Wp (d + 16) 134 (132, [some (.ref 16), some (.int (zI x1)), some (.int (zI x2)), some (.int (zI x3))], [], sA μ1 m1 l1) Q
          rw [cif_p hE] at hsg
          have hKI := ClK_I hK
          obtain ⟨T1, lev, F, G, Fn, S0, Tf, K, k1, k2, k3, k4, k5, k6, k7, k8, k9, k10, k11⟩ := hK
          obtain ⟨⟨r1, r2, r3, r4, r5, r6⟩, _, _, _, _⟩ := id S1
          obtain ⟨r, er⟩ : ∃ r : Nat, x1 - 1 = (r : Int) := ⟨(x1 - 1).toNat, by omega⟩
          obtain ⟨i, rfl⟩ : ∃ i : Nat, x2 = (i : Int) := ⟨x2.toNat, by omega⟩
          rw [er, Int.toNat_natCast, Int.toNat_natCast] at hsg
          obtain ⟨w1, w2, w3, w4⟩ := k11.2.2.2.1
          have hr : r < (rlS rs).length := by omega
          have a0 : m1 98 (r : Int) = (pfs (mvO rs (rlS rs) L) r : Int) := w1 r (by omega)
          have a1 : m1 98 ((r : Int) + 1) = (pfs (mvO rs (rlS rs) L) (r + 1) : Int) := by
            have := w1 (r + 1) (by omega)
            rw [show ((r + 1 : Nat) : Int) = (r : Int) + 1 by omega] at this
            exact this
          have a2 : pfs (mvO rs (rlS rs) L) (r + 1) = pfs (mvO rs (rlS rs) L) r + (mvO rs (rlS rs) L r).length := rfl
          have a3 := pfs_s (mv := mvO rs (rlS rs) L) hr
          refine K134_132 r1 r2 (TQ_q r3) hs r5 ?_
          rw [er, a0, a1]
          refine ⟨⟨by omega, by omega⟩, ⟨by omega, by omega⟩, fun v1 ev1 => ?_⟩
          have ev : v1 = ((mvO rs (rlS rs) L r).length : Int) := by omega
          rw [ev]
          refine ⟨hx2, ⟨by omega, by omega⟩, fun z8 => ⟨⟨by omega, by omega⟩, ⟨by omega, by omega⟩, fun v2 ev2 => ?_⟩, fun z8 => hthr 2 μ1 m1 l1 q1 (Or.inr (Or.inr (Or.inl ⟨by rw [hsg, if_neg z8], rfl⟩))) G1 S1 hKI f1 fl1⟩
          have hi : i < (mvO rs (rlS rs) L r).length := by omega
          obtain ⟨u, u1, u2, u3⟩ := w3 r hr i hi
          have tm := k11.2.2.2.2 r hr _ (gD_in (e := []) hi)
          have g48 := GdC_48 tm.1 tm.2.1
          have u1' : m1 97 ((pfs (mvO rs (rlS rs) L) r : Int) + (i : Int)) = (u : Int) := u1
          rw [ev2, u1']
          refine ⟨fun x μ' => Wp (d + 16) 134 (178, [some (.ref 16), some (.int (zI x1)), some (.int (zI (i : Int))), some (.int (zI x3))], [.int x], μ') Q, noX, ?_, fun _ _ h => h, fun _ _ z => z.elim⟩
          refine k_signAt (d := d + 14) (Q := pI _ noX) r1 r2 (TQ_q r3) ha r6 k1.1.1.2.1 k1.2.1 k1.2.2.1 (Nat.lt_of_lt_of_le u2 k5) u3 tm.1 (by omega) (by omega) ⟨z5, hx3'.2⟩ ?_
          show Wp (d + 16) 134 (178, [some (.ref 16), some (.int (zI x1)), some (.int (zI (i : Int))), some (.int (zI x3))], [.int (zI _)], sA μ1 m1 l1) Q
          refine K134_178 r1 r2 (TQ_q r3) hs r5 ?_
          rw [if_pos z8] at hsg
          have := hok μ1 m1 l1 q1 (by rw [hsg]) G1 S1 hKI f1 fl1
          rw [hsg] at this
          exact this
        · -- a term's of the state
          obtain rfl : x1 = 0 := Classical.byContradiction z6
          rw [e12]
          refine ⟨⟨by omega, by
            rcases ClI_60 hI with h | ⟨L', h, h'⟩
            · exact absurd h y
            · omega⟩, fun z8 => ?_, fun z8 => thr 2 (Or.inr (Or.inr (Or.inl ⟨by rw [sgC_0, if_neg (by omega)], rfl⟩)))⟩
          obtain ⟨i, rfl⟩ : ∃ i : Nat, x2 = (i : Int) := ⟨x2.toNat, by omega⟩
          have hi : i < L.length := by omega
          obtain ⟨T', hB', ⟨_, _, _, _, _, h, _⟩ | ⟨lev, F, G, Fn, S0, Tf, K, k2, k3, k4, k5, k6, k7, k8, _⟩ | ⟨_, _, _, _, h, _⟩⟩ := id hI
          · exact nomatch h
          · obtain ⟨u, u1, u2, u3⟩ := k8.2.2.2 i hi
            rw [Int.zero_add] at u1
            have tm := k8.2.2.1 _ (gD_in (e := []) hi)
            have g48 := GdC_48 tm.1 tm.2.1
            have h60 := k8.2.1
            refine ⟨⟨by omega, by omega⟩, ?_⟩
            rw [u1]
            refine ⟨fun x μ' => Wp (d + 16) 134 (89, [some (.ref 16), some (.int (zI 0)), some (.int (zI (i : Int))), some (.int (zI x3))], [.int x], μ') Q, noX, ?_, fun _ _ h => h, fun _ _ z => z.elim⟩
            refine k_signAt (d := d + 14) (Q := pI _ noX) s1 s2 (TQ_q s3) ha s6 hB'.1.1.2.1 hB'.2.1 hB'.2.2.1 (Nat.lt_of_lt_of_le u2 k5) u3 tm.1 (by omega) (by omega) ⟨z5, hx3'.2⟩ ?_
            show Wp (d + 16) 134 (89, [some (.ref 16), some (.int (zI 0)), some (.int (zI (i : Int))), some (.int (zI x3))], [.int (zI _)], sA μ m l) Q
            refine K134_89 s1 s2 (TQ_q s3) hs s5 ?_
            have hsg : sgO rs (rlS rs) (some L) 0 (i : Int) x3 = (0, (tx (L.getD i [])).getD x3.toNat 0) := by
              rw [sgC_0, if_pos ⟨by omega, z5⟩, Int.toNat_natCast]
            have := hok μ m l q (by rw [hsg]) Gx_r hS hI (fun _ _ _ _ => rfl) (fun _ _ _ _ => rfl)
            rw [hsg] at this
            exact this
          · exact nomatch h
end CSG
