/-! ===== read, joined ===== -/
theorem wrg_c {q s c : Nat} {j : Int} (y : WRg q s c j) : (c = 16 ∧ ¬ j = 1) ∨ (18 ≤ c ∧ c ≤ 21) ∨ (s ≤ c ∧ c ≤ s + 19) ∨ (62 ≤ c ∧ c ≤ 93) ∨ (q ≤ c ∧ c ≤ q + 7) := by
  rcases y with (y | y | y | y) | ((y | y | y | y) | (y | y | y | y) | y | y) | y <;> omega
theorem rdg_c {c : Nat} {j : Int} (y : RdG c j) : (125 ≤ c ∧ c ≤ 184) ∧ ¬ (c = 125 ∧ j = 2) ∧ ¬ c = 126 := by
  rcases y with (y | y | y | y) | y | y | y <;> exact ⟨⟨by omega, by omega⟩, by omega, by omega⟩
theorem wrd_c {s c : Nat} {j : Int} (hs : s = 22 ∨ s = 42) (y : WRd s c j) : c ≤ 69 := by
  rcases y with y | y | y | y <;> omega
theorem fmg_1 {s q e c : Nat} {j : Int} (hs : s = 22 ∨ s = 42) (hq : q = 85 ∨ 185 < q) (he : e = 108 ∨ 185 < e) (hn : ¬ (q ≤ e ∧ e ≤ q + 7)) (z : c = 0 ∨ c = 1 ∨ (c = 16 ∧ j = 1) ∨ c = 17 ∨ (s + 1 ≤ c ∧ c ≤ s + 4) ∨ c = 109 ∨ c = e ∨ (c = 125 ∧ j = 2) ∨ c = 126 ∨ c = 98 ∨ c = 103) : ¬ WRg q (64 - s) c j ∧ ¬ RdG c j := by
  refine ⟨fun y => ?_, fun y => ?_⟩
  · have w := wrg_c y
    clear y
    rcases z with z | z | z | z | z | z | z | z | z | z | z <;> omega
  · have w := rdg_c y
    clear y
    rcases z with z | z | z | z | z | z | z | z | z | z | z <;> omega
theorem rdg_70 {c : Nat} {j : Int} (z : c ≤ 124 ∨ 185 ≤ c) : ¬ RdG c j := fun y => by
  have w := rdg_c y
  clear y
  omega
theorem wrg_125 {q s c : Nat} {j : Int} (hs : s = 22 ∨ s = 42) (hq : q = 85 ∨ 185 < q) (z : 125 ≤ c ∧ c ≤ 184) : ¬ WRg q s c j := fun y => by
  have w := wrg_c y
  clear y
  omega
theorem sic_g {s q c : Nat} {j : Int} (hs : s = 22 ∨ s = 42) (hq : q = 85 ∨ 185 < q) (z : SIc s q c j) : c ≤ 124 ∨ 185 ≤ c := by
  rcases z with z | z | z | z | z | z | z | z | z | z | z | z <;> omega
theorem jc_nr {e c : Nat} {j : Int} (he : e = 108 ∨ 185 < e) (z : JcT e c j) : ¬ ((c = 16 ∧ j = 1) ∨ c = 17 ∨ (c = 125 ∧ j = 2) ∨ c = 126 ∨ c = 175 ∨ c = 151 ∨ c = 165) := fun y => by
  rcases z with z | z | z | z | z | z | z | z | z <;> omega
theorem jo_nr {q c : Nat} {j : Int} (hq : q = 85 ∨ 185 < q) (z : JoT q c j) : ¬ ((c = 16 ∧ j = 1) ∨ c = 17 ∨ (c = 125 ∧ j = 2) ∨ c = 126 ∨ c = 175 ∨ c = 151 ∨ c = 165) := fun y => by
  rcases z with z | z | z | z | z | z | z | z <;> omega
theorem js_nr {s q c : Nat} {j : Int} (hs : s = 22 ∨ s = 42) (hq : q = 85 ∨ 185 < q) (z : SIc s q c j ∨ (c = 16 ∧ (j = 6 ∨ j = 17)) ∨ c = 106 ∨ (113 ≤ c ∧ c ≤ 122) ∨ RfT c j) : ¬ ((c = 16 ∧ j = 1) ∨ c = 17 ∨ (c = 125 ∧ j = 2) ∨ c = 126 ∨ c = 175) := fun y => by
  rcases z with z | z | z | z | z
  · have w := sic_b hs z
    clear z
    rcases w with w | w | w <;> omega
  · omega
  · omega
  · omega
  · rcases z with z | z <;> omega
section LRE
variable {L i : Nat} {xs : Nat → Int32} {μ μ1 ν : am_Mem} {m l m1 m2 l2 : PM} {s q e : Nat} {n v : Int}
theorem jr_good {rs : List Rul} {T : Nat} {W0 : Int → Nat} (hb : JrB L xs i μ m l s q e n) (hP : pSh (m 17) n 60 0 [] = .inr rs) (hc0 : (chF rs).1 = 0) (R1 : SmR μ μ1) (H1 : CS μ1) (g4 : am_F μ1 16 4 = 64 - s) (g5 : am_F μ1 16 5 = s) (g70 : am_F μ1 70 2 = 64 - s) (g84 : am_F μ1 84 0 = 64 - s + 1) (f1 : ∀ c j, ¬ WRg q (64 - s) c j → m1 c j = m c j) (hC : CNm m1 (64 - s + 1)) (e2 : m1 16 2 = -1) (e6 : m1 16 6 = 1) (e12 : m1 16 12 = -1) (e17 : m1 16 17 = 0) (hCl : ClS (64 - s) rs m1) (hM : MdC q (tN q) (tS q) (64 - s) rs m1 T) (hT' : T ≤ 1000) (e15 : m1 70 15 = (T : Int)) (e1270 : m1 70 12 = 0) (hF1 : FtI W0 m1 0)
    (f2 : ∀ c j, ¬ RdG c j → m2 c j = m1 c j) (r3 : m2 125 3 = -1) (r4 : m2 125 4 = 1) (r6 : m2 125 6 = n) (r72 : m2 125 72 = 0 ∧ m2 125 75 = 0 ∧ m2 125 81 = 0) (t127 : ∀ j, 0 ≤ j → j < n → m2 127 j = m 126 j) (q127 : ∀ j, 0 ≤ m2 127 j ∧ m2 127 j ≤ 127) (q128 : ∀ j, 0 ≤ m2 128 j ∧ m2 128 j ≤ 127) (hv : RV m2 rs) (hL : nmL m2 = LsE (m 126) n) (hR : RlT m2 (rlS rs)) (i165 : ∀ j, iR (m2 165 j)) (i151 : ∀ j, iR (m2 151 j)) : lawF L xs (sA μ1 m2 l2) ∧ JtP (i + 1) (sA μ1 m2 l2) := by
  obtain ⟨hT, hJ, ⟨⟨n1, n2, n3, n4⟩, r17, r126, e1726⟩, _, _, _, ⟨e98, e103⟩, hm⟩ := hb
  obtain ⟨j1, j2, ⟨j3, j3'⟩, j4, ⟨j5, j5'⟩, ⟨j6, j6'⟩, _, ⟨j8, j8'⟩, ⟨j9, j9'⟩, j10, j11, j12⟩ := hJ
  obtain ⟨_, _, ⟨x3, x4, x5⟩, x6, x7⟩ := id j2
  obtain ⟨r1, r2, r3', r4'⟩ := id R1
  have hs' : 64 - s = 22 ∨ 64 - s = 42 := by omega
  have fk : ∀ c j, c = 0 ∨ c = 1 ∨ (c = 16 ∧ j = 1) ∨ c = 17 ∨ (s + 1 ≤ c ∧ c ≤ s + 4) ∨ c = 109 ∨ c = e ∨ (c = 125 ∧ j = 2) ∨ c = 126 ∨ c = 98 ∨ c = 103 → m2 c j = m c j := fun c j z => (f2 c j (fmg_1 j1 x6 x3 x4 z).2).trans (f1 c j (fmg_1 j1 x6 x3 x4 z).1)
  obtain ⟨g1, g2, g3⟩ := jr_tl (L := L) (xs := xs) (l2 := l2) R1 (fun c j z => fk c j (by omega)) hT
  have S1 : ShX (64 - s) μ1 q e := ShX_R R1 H1 g70 g84 j2
  have cnO : CNm m2 (64 - s + 1) := CNm_cg2 (funext fun x => f2 _ _ (rdg_70 (by omega))) (funext fun x => f2 _ _ (rdg_70 (by omega))) (funext fun x => f2 _ _ (rdg_70 (by omega))) hC
  have cnS : ∀ a, a = s + 1 → CNm m a → CNm m2 a := fun a ea h => CNm_cg2 (funext fun x => fk _ _ (by omega)) (funext fun x => fk _ _ (by omega)) (funext fun x => fk _ _ (by omega)) h
  have cn2 : CNm m2 23 ∧ CNm m2 43 := by
    rcases j1 with y | y
    · subst y
      exact ⟨cnS 23 rfl j8, cnO⟩
    · subst y
      exact ⟨cnO, cnS 43 rfl j8'⟩
  have hgo : GoS rs := ⟨hv.2.2.2.2.2, hv.2.2.2.2.1, pSh_ow ⟨n3, n4⟩ 60 0 [] rs (fun ru hru => absurd hru List.not_mem_nil) hP, pSh_ne n3 60 0 [] rs (fun ru hru => absurd hru List.not_mem_nil) hP, hc0⟩
  obtain ⟨X, W, hI⟩ := ClI_new hgo hM hCl hT' e15 e1270 hF1 ((f1 98 0 (fmg_1 j1 x6 x3 x4 (by omega)).1).trans e98) ((f1 103 0 (fmg_1 j1 x6 x3 x4 (by omega)).1).trans e103) e12
  refine ⟨g1, g2, g3, μ1, m2, l2, 64 - s, q, e, rfl, ⟨hs', S1, ⟨g4, by rw [g5]; omega⟩, RS_R R1 j4, ⟨?_, ?_⟩, ⟨by rw [r3']; exact j6, fun j hj => (fk 1 _ (by omega)).trans (j6' j hj)⟩, by rw [f2 16 2 (rdg_70 (by omega)), e2, r3], cn2, ⟨(fk 109 0 (by omega)).trans j9, fun j => by rw [fk e j (by omega)]; exact j9' j⟩, by rw [r6]; exact ⟨n3, n4⟩, q127, q128⟩, Or.inr ⟨rs, X, W, fun x => wdt rs (nmR m2 x.toNat), T, none, none, hgo, ClI_cg S1 hs' (fun c j z => f2 c j (rdg_70 (sic_g hs' x6 z))) hI, Or.inl ((f2 16 17 (rdg_70 (by omega))).trans e17), (f2 16 6 (rdg_70 (by omega))).trans e6, ⟨⟨hv, fun x w hx => (show wdt rs (nmR m2 x.toNat) = wdt rs w by rw [hx.2.2]), i151, i165, hR.1, hR.2.1, (rlS_ok rs).1, fun r hr => ?_⟩, r4, r72.1, Or.inl r72.2.1, r72.2.2⟩, ?_, ?_⟩⟩
  · unfold nN at j5 ⊢
    omega
  · unfold sN at j5' ⊢
    omega
  · obtain ⟨a1, a2, a3⟩ := rl_gt hgo hv (gD_in (e := []) hr)
    exact ⟨fun i hi => hR.2.2 r hr i hi, a1, a2, a3⟩
  · rw [r6, pSh_cgt (t := m2 127) (t' := m 17) n3 (fun j a b => (t127 j a b).trans (e1726 j a b).symm)]
    exact hP
  · rw [hL, r6]
    exact LsE_cgt (t := m 126) (t' := m2 127) n3 (fun j a b => (t127 j a b).symm)
/-- the memory, made whole for a read -/
theorem jr_open (hF : lawF L xs ν) (hJ : JtP i ν) : ∃ (μ : am_Mem) (m l : PM) (s q e : Nat) (n : Int), ν = sA μ m l ∧ JrB L xs i μ m l s q e n := by
  obtain ⟨hT, hR, μ0, m0, l0, s, q, e, rfl, hc, hm⟩ := hJ
  have hS := hc.2.1
  have hs := hc.1
  have x3 := hS.2.2.1.1
  have x6 := hS.2.2.2.1
  -- the text's facts
  have txt : ∀ m' l' : PM, sA μ0 m0 l0 = sA (sA μ0 m0 l0) m' l' → (∀ c j, (c = 16 ∧ j = 1) ∨ c = 17 ∨ (c = 125 ∧ j = 2) ∨ c = 126 → m' c j = (am_A (sA μ0 m0 l0) c j.toNat).toInt) → ∃ n : Int, (m' 16 1 = n ∧ m' 125 2 = n ∧ 0 ≤ n ∧ n ≤ 2000) ∧ (∀ j, 0 ≤ m' 17 j ∧ m' 17 j ≤ 127) ∧ (∀ j, 0 ≤ m' 126 j ∧ m' 126 j ≤ 127) ∧ ∀ j, 0 ≤ j → j < n → m' 17 j = m' 126 j := by
    intro m' l' _ hk
    obtain ⟨n, h1, ⟨h2, h3, h4⟩, ⟨h5, h6, h7⟩, h8⟩ := hT
    have en : (nI n).toInt = (n : Int) := by
      rw [nI_zI, zI_toInt ⟨by omega, by omega⟩]
    refine ⟨n, ⟨?_, ?_, by omega, by omega⟩, fun j => by rw [hk 17 j (by omega)]; exact (hR j.toNat).1, fun j => by rw [hk 126 j (by omega)]; exact (hR j.toNat).2, fun j a b => ?_⟩
    · rw [hk 16 1 (by omega)]
      exact (congrArg Int32.toInt h4).trans en
    · rw [hk 125 2 (by omega)]
      exact (congrArg Int32.toInt h7).trans en
    · rw [hk 17 j (by omega), hk 126 j (by omega), h8 j.toNat (by omega)]
  rcases hm with hz | ⟨rs, X, W, W', N0, st, xp, hy⟩
  · obtain ⟨m', l', e', km, _, kp⟩ := tx_m (P := fun c j => (c = 16 ∧ j = 1) ∨ c = 17 ∨ (c = 125 ∧ j = 2) ∨ c = 126 ∨ c = 175 ∨ c = 151 ∨ c = 165) (μ := μ0) (m := m0) (l := l0) (μ' := sA μ0 m0 l0) (fun _ _ _ => ⟨rfl, rfl⟩)
    obtain ⟨n, a1, a2, a3, a4⟩ := txt m' l' e' (fun c j z => kp c j (by omega))
    have hz' : JoP m' q := JoP_cg (fun c j z => km c j (jo_nr x6 z)) hz
    have ir : ∀ c j, c = 175 ∨ c = 151 ∨ c = 165 → iR (m' c j) := fun c j z => by
      rw [kp c j (by omega)]
      exact iR_x _
    refine ⟨sA μ0 m0 l0, m', l', s, q, e, n, e', ⟨by rw [← e']; exact hF, by rw [← e']; exact hT, by rw [← e']; exact hR⟩, JcP_0 (μ := μ0) (fun c j z => km c j (jc_nr x3 z)) hc, ⟨a1, a2, a3, a4⟩, ⟨fun j => ir 165 j (by omega), fun j => ir 151 j (by omega), fun j => ir 175 j (by omega)⟩, hz'.2.2.2.1, hz'.2.2.2.2, hz'.2.2.1, Or.inl hz'⟩
  · obtain ⟨m', l', e', km, _, kp⟩ := tx_m (P := fun c j => (c = 16 ∧ j = 1) ∨ c = 17 ∨ (c = 125 ∧ j = 2) ∨ c = 126 ∨ c = 175) (μ := μ0) (m := m0) (l := l0) (μ' := sA μ0 m0 l0) (fun _ _ _ => ⟨rfl, rfl⟩)
    obtain ⟨n, a1, a2, a3, a4⟩ := txt m' l' e' (fun c j z => kp c j (by omega))
    have hy' : JsP i m' s q rs X W W' N0 st xp := JsP_cg (Nat.le_refl i) hS hs (fun c j z => km c j (js_nr hs x6 z)) hy
    obtain ⟨T, hB, hI⟩ := id hy'.2.1
    refine ⟨sA μ0 m0 l0, m', l', s, q, e, n, e', ⟨by rw [← e']; exact hF, by rw [← e']; exact hT, by rw [← e']; exact hR⟩, JcP_0 (μ := μ0) (fun c j z => km c j (fun y => jc_nr x3 z (by omega))) hc, ⟨a1, a2, a3, a4⟩, ⟨hy'.2.2.2.2.1.1.2.2.2.1, hy'.2.2.2.2.1.1.2.2.1, fun j => by rw [kp 175 j (by omega)]; exact iR_x _⟩, ⟨T, hB.2.2.1.1⟩, ?_, hB.2.2.2.2.2.2, Or.inr ⟨rs, X, W, W', N0, st, xp, hy'⟩⟩
    rcases hI with ⟨_, _, _, h, _⟩ | ⟨_, _, _, Fn, _, _, _, h, _⟩ | ⟨_, _, _, ⟨Fn, h⟩, _⟩
    · exact ⟨W, 0, h⟩
    · exact ⟨W, Fn, h.2.2.2.1.1⟩
    · exact ⟨W, Fn, h⟩
theorem j_read (hL : L ≤ 2048) (hi : 4 * i + 4 ≤ L) (hF : lawF L xs ν) (hJ : JtP i ν) : lawC L xs 45 i 2 (JtP (i + 1)) ν := by
  obtain ⟨μ, m, l, s, q, e, n, rfl, hb⟩ := jr_open hF hJ
  obtain ⟨hT, hJc, ⟨⟨n1, n2, n3, n4⟩, r17, r126, e1726⟩, ⟨i165, i151, i175⟩, ⟨T0, hT0⟩, ⟨W0, F0, hF0⟩, _, _⟩ := id hb
  obtain ⟨j1, j2, ⟨j3, j3'⟩, j4, _, ⟨j6, j6'⟩, _, ⟨j8, j8'⟩, _, j10, j11, j12⟩ := id hJc
  have x6 := j2.2.2.2.1
  have x3 := j2.2.2.1.1
  have x4 := j2.2.2.1.2.1
  have hs' : 64 - s = 22 ∨ 64 - s = 42 := by omega
  have cn' : CNm m (64 - s + 1) := by
    rcases j1 with y | y
    · subst y
      exact j8'
    · subst y
      exact j8
  have evd : vd (m 17) n = vd (m 126) n := vd_cgt n3 e1726
  show Wp 45 119 (0, [some (.ref 16), none, none], [], sA μ m l) (pI (fun k μ1 => lawF L xs μ1 ∧ Wp 45 153 (0, [some (.ref 125), none, none], [], μ1) (pI (fun b μ2 => lawF L xs μ2 ∧ JtP (i + 1) μ2 ∧ k = b) noX)) noX)
  refine k_read (d := 17) (Q := pI _ noX) (s := 64 - s) (s0 := s) (T0 := T0) (W := W0) (F0 := F0) j2.1.1 j2.1.2.1 (TQ_q j2.1.2.2.1) hs' j1 j3' j3 hT0 hF0 cn' ⟨by omega, by omega⟩ r17 j6 j6' (fun μ1 m1 l1 S1 H1 f1 _ hC1 e2 hne => ?_) (fun rs μ1 m1 l1 T hP hc0 R1 H1 g4 g5 g70 g84 f1 _ hC1 e2 e6 e12 _ e17 hCl hM hT' e15 e1270 hF1 => ?_)
  · show lawF L xs (sA μ1 m1 l1) ∧ Wp 45 153 (0, [some (.ref 125), none, none], [], sA μ1 m1 l1) (pI (fun b μ2 => lawF L xs μ2 ∧ JtP (i + 1) μ2 ∧ zI (vd (m 17) (m 16 1)).1 = b) noX)
    have R1 := SmR_S S1
    have g1 : ∀ c j, 125 ≤ c → m1 c j = m c j := fun c j hc => f1 c j (fun y => absurd (wrd_c hs' y) (by omega))
    have fk : ∀ c j, c = 0 ∨ (c = 16 ∧ j = 1) ∨ c = 17 ∨ (c = 125 ∧ j = 2) ∨ c = 126 → m1 c j = m c j := fun c j z => f1 c j (fmk_1 (e := e) j1 x3 (by omega)).1
    have w126 : m1 126 = m 126 := funext fun j => g1 126 j (by decide)
    have w2 : m1 125 2 = n := (g1 125 2 (by decide)).trans n2
    have ev : vd (m1 126) (m1 125 2) = vd (m 17) (m 16 1) := by rw [w126, w2, n1, evd]
    refine ⟨(jr_tl (L := L) (xs := xs) (l2 := l1) R1 fk hT).1, ?_⟩
    refine r_read (d := 36) (Q := pI _ noX) (RS_R R1 j4) (by rw [w2]; exact ⟨n3, n4⟩) (by rw [g1 125 6 (by decide)]; exact j10) (fun j => by rw [w126]; exact r126 j) (fun j => by rw [g1 127 j (by decide)]; exact j11 j) (fun j => by rw [g1 128 j (by decide)]; exact j12 j) (fun j => by rw [g1 165 j (by decide)]; exact i165 j) (fun j => by rw [g1 151 j (by decide)]; exact i151 j) (fun j => by rw [g1 175 j (by decide)]; exact i175 j) (fun m2 f2 _ e3 _ h128 hk => ?_) (fun rs2 m2 hP2 hc2 _ _ _ _ _ _ _ _ _ _ _ _ _ _ _ => absurd ?_ hne)
    · show lawF L xs (sA μ1 m2 l1) ∧ JtP (i + 1) (sA μ1 m2 l1) ∧ zI (vd (m 17) (m 16 1)).1 = zI (vd (m1 126) (m1 125 2)).1
      obtain ⟨a, b⟩ := jr_bad (l2 := l1) hb S1 H1 f1 hC1 f2 e2 (by rw [e3, ev]) h128 hk
      exact ⟨a, b, by rw [ev]⟩
    · have e : vd (m1 126) (m1 125 2) = chF rs2 := by
        unfold vd
        rw [hP2]
      rw [← ev, e]
      exact hc2
  · show lawF L xs (sA μ1 m1 l1) ∧ Wp 45 153 (0, [some (.ref 125), none, none], [], sA μ1 m1 l1) (pI (fun b μ2 => lawF L xs μ2 ∧ JtP (i + 1) μ2 ∧ zI 0 = b) noX)
    rw [n1] at hP
    have g1 : ∀ c j, 125 ≤ c ∧ c ≤ 184 → m1 c j = m c j := fun c j hc => f1 c j (wrg_125 hs' x6 hc)
    have fk : ∀ c j, c = 0 ∨ (c = 16 ∧ j = 1) ∨ c = 17 ∨ (c = 125 ∧ j = 2) ∨ c = 126 → m1 c j = m c j := fun c j z => f1 c j (fmg_1 (e := e) j1 x6 x3 x4 (by omega)).1
    have w126 : m1 126 = m 126 := funext fun j => g1 126 j (by decide)
    have w2 : m1 125 2 = n := (g1 125 2 (by decide)).trans n2
    have hP1 : pSh (m1 126) (m1 125 2) 60 0 [] = .inr rs := by
      rw [w126, w2, pSh_cgt (t := m 126) (t' := m 17) n3 (fun j a b => (e1726 j a b).symm)]
      exact hP
    have ev : vd (m1 126) (m1 125 2) = chF rs := by
      unfold vd
      rw [hP1]
    refine ⟨(jr_tl (L := L) (xs := xs) (l2 := l1) R1 fk hT).1, ?_⟩
    refine r_read (d := 36) (Q := pI _ noX) (RS_R R1 j4) (by rw [w2]; exact ⟨n3, n4⟩) (by rw [g1 125 6 (by decide)]; exact j10) (fun j => by rw [w126]; exact r126 j) (fun j => by rw [g1 127 j (by decide)]; exact j11 j) (fun j => by rw [g1 128 j (by decide)]; exact j12 j) (fun j => by rw [g1 165 j (by decide)]; exact i165 j) (fun j => by rw [g1 151 j (by decide)]; exact i151 j) (fun j => by rw [g1 175 j (by decide)]; exact i175 j) (fun m2 _ _ _ hne _ _ => absurd (by rw [ev]; exact hc0) hne) (fun rs2 m2 hP2 hc2 f2 _ r3 r4 r6 r72 t127 q127 q128 hv hL hR i165' i151' _ => ?_)
    have ers : rs2 = rs := Sum.inr.inj (hP2.symm.trans hP1)
    subst ers
    show lawF L xs (sA μ1 m2 l1) ∧ JtP (i + 1) (sA μ1 m2 l1) ∧ zI 0 = zI 0
    rw [w2] at r6 t127 hL
    rw [w126] at hL
    obtain ⟨a, b⟩ := jr_good (l2 := l1) hb hP hc0 R1 H1 g4 g5 g70 g84 f1 hC1 (e2.trans (chF_0 hc0)) e6 e12 e17 hCl hM hT' e15 e1270 hF1 f2 r3 r4 r6 r72 (fun j a b => (t127 j a b).trans (by rw [w126])) q127 q128 hv hL hR i165' i151'
    exact ⟨a, b, rfl⟩
end LRE
