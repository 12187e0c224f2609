/-! ===== read, of both: a new sheet ===== -/
theorem chF_0 {rs : List Rul} : (chF rs).1 = 0 → (chF rs).2 = -1 := by
  unfold chF
  repeat' split
  all_goals intro h
  all_goals first | rfl | exact absurd (show (2 : Int) = 0 from h) (by decide) | exact absurd (show (3 : Int) = 0 from h) (by decide) | exact absurd (show (4 : Int) = 0 from h) (by decide) | exact absurd (show (5 : Int) = 0 from h) (by decide) | exact absurd (show (6 : Int) = 0 from h) (by decide) | exact absurd (show (7 : Int) = 0 from h) (by decide)
theorem ClI_new {q s T : Nat} {rs : List Rul} {m : PM} {W0 : Int → Nat} (hgo : GoS rs) (hM : MdC q (tN q) (tS q) s rs m T) (hCl : ClS s rs m) (hT : T ≤ 1000) (e15 : m 70 15 = (T : Int)) (e12 : m 70 12 = 0) (hF : FtI W0 m 0) (e98 : m 98 0 = 0) (e103 : m 103 0 = 0) (e16 : m 16 12 = -1) : ∃ (X : Int → List Int → Prop) (W : Int → Nat), ClI X W s rs q m T none := by
  obtain ⟨c, n1, v1, ct, gr, rf⟩ := hM
  obtain ⟨t1, t2, t3, t4, t5, t6⟩ := id n1.1.1
  have hr := NcT_r n1.1.1
  have hlen : ∀ x w, cX m (s + 1) c x w → m (s + 1 + 3) (x + 1) - m (s + 1 + 3) x = (w.length : Int) ∧ (0 ≤ m (s + 1 + 3) x ∧ m (s + 1 + 3) x + (w.length : Int) ≤ 2058) ∧ ∀ i : Nat, i < w.length → m (s + 1 + 2) (m (s + 1 + 3) x + (i : Int)) = w.getD i 0 := by
    intro x w hx
    obtain ⟨x0, x1, x2⟩ := hx
    have ex : ((x.toNat : Nat) : Int) = x := Int.toNat_of_nonneg x0
    have k1 := t4 x.toNat (by omega)
    have k2 := hr x.toNat (by omega)
    have k3 := hr (x.toNat + 1) (by omega)
    rw [ex] at k1 k2
    rw [show ((x.toNat + 1 : Nat) : Int) = x + 1 by omega] at k3
    unfold cn at x2
    rw [ex] at x2
    have el : w.length = (m (s + 1 + 3) (x + 1) - m (s + 1 + 3) x).toNat := by rw [← x2, sl_len]
    refine ⟨by omega, ⟨k2.1, by omega⟩, fun i hi => ?_⟩
    rw [← x2, sl_get _ _ _ _ (by omega)]
  have hW : ∀ x w, cX m (s + 1) c x w → wdt rs (cn m (s + 1) x.toNat) = wdt rs w := fun x w hx => by rw [hx.2.2]
  have up : ∀ ru, ru ∈ rs → ∃ r, r < rs.length ∧ rs.getD r ruD = ru := fun ru hru => (mem_gD rs ruD ru).mp hru
  refine ⟨cX m (s + 1) c, fun x => wdt rs (cn m (s + 1) x.toNat), T, ⟨⟨v1, fun x w hx => (hlen x w hx).1, fun ru hru => ⟨fun x hx => ?_, fun c' hc' h3 x hx => ?_⟩, hW⟩, fun x w hx => ⟨⟨hx.1, by have := hx.2.1; omega⟩, hlen x w hx⟩, ct, gr, ⟨rf.1, fun k hk => ?_⟩, hT, e98, e103⟩, Or.inl ⟨e12, rfl, e15, FtI_W hF, hCl, rfl, e16⟩⟩
  · obtain ⟨r, hr', er⟩ := up ru hru
    have z := wdt_in hgo (upA_h hr')
    rw [er] at z
    exact (hW x _ hx).trans z
  · obtain ⟨r, hr', er⟩ := up ru hru
    have z := wdt_in hgo (upA_c hr' (c := c') (by rw [er]; exact hc') h3)
    exact (hW x _ hx).trans z
  · obtain ⟨u, u1, u2, u3⟩ := rf.2.2 k hk
    exact ⟨u, by rw [Int.zero_add]; exact u2, u1, u3⟩
theorem ShX_R {s s1 q e : Nat} {μ μ' : am_Mem} (h : SmR μ μ') (H : CS μ') (e70 : am_F μ' 70 2 = s1) (e84 : am_F μ' 84 0 = s1 + 1) (hS : ShX s μ q e) : ShX s1 μ' q e := by
  obtain ⟨⟨c1, t1, h3, ⟨h4, h4'⟩, h5, h6⟩, ⟨x1, x2⟩, ⟨x3, x4, x5⟩, x6, x7⟩ := hS
  obtain ⟨r1, r2, r3, r4⟩ := id h
  exact ⟨⟨H, TS_R h t1, h3, ⟨by omega, by omega⟩, e70, e84⟩, ⟨by rw [r4 107 0 (by omega)]; exact x1, by rw [r3]; exact x2⟩, ⟨x3, x4, by omega⟩, x6, by omega⟩
theorem RS_R {μ μ' : am_Mem} (h : SmR μ μ') (hR : RS μ) : RS μ' := ⟨fun i hi => by rw [h.2.2.1]; exact hR.1 i hi, fun f hf => by rw [h.2.2.2 125 f (by omega)]; exact hR.2 f hf⟩
section LRD
variable {L i : Nat} {xs : Nat → Int32} {μ μ1 : am_Mem} {m l m1 m2 l2 : PM} {s q e : Nat} {n v : Int}
theorem jr_tl (h : SmR μ μ1) (f : ∀ c j, c = 0 ∨ (c = 16 ∧ j = 1) ∨ c = 17 ∨ (c = 125 ∧ j = 2) ∨ c = 126 → m2 c j = m c j) (hT : lawF L xs (sA μ m l) ∧ TextI (sA μ m l) ∧ RngI (sA μ m l)) : lawF L xs (sA μ1 m2 l2) ∧ TextI (sA μ1 m2 l2) ∧ RngI (sA μ1 m2 l2) := by
  obtain ⟨⟨a1, a2, a3, a4, a5⟩, ⟨n, h1, ⟨h2, h3, h4⟩, ⟨h5, h6, h7⟩, h8⟩, hR⟩ := hT
  obtain ⟨_, _, r3, r4⟩ := h
  have kk : ∀ c, am_kd (sA μ1 m2 l2) c = am_kd (sA μ m l) c := fun c => congrFun r3 c
  refine ⟨⟨(kk 0).trans a1, fun j => ?_, (kk 16).trans a3, (kk 125).trans a4, (kk 185).trans a5⟩, ⟨n, h1, ⟨(r4 16 0 (by omega)).trans h2, (kk 17).trans h3, ?_⟩, ⟨(r4 125 1 (by omega)).trans h5, (kk 126).trans h6, ?_⟩, fun j hj => ?_⟩, fun j => ⟨?_, ?_⟩⟩
  · show zI (m2 0 (j : Int)) = xs j
    rw [f 0 _ (by omega)]
    exact a2 j
  · show zI (m2 16 1) = nI n
    rw [f 16 1 (by omega)]
    exact h4
  · show zI (m2 125 2) = nI n
    rw [f 125 2 (by omega)]
    exact h7
  · show zI (m2 17 (j : Int)) = zI (m2 126 (j : Int))
    rw [f 17 _ (by omega), f 126 _ (by omega)]
    exact h8 j hj
  · show sgR (zI (m2 17 (j : Int)))
    rw [f 17 _ (by omega)]
    exact (hR j).1
  · show sgR (zI (m2 126 (j : Int)))
    rw [f 126 _ (by omega)]
    exact (hR j).2
/-- ahead of a read -/
def JrB (L : Nat) (xs : Nat → Int32) (i : Nat) (μ : am_Mem) (m l : PM) (s q e : Nat) (n : Int) : Prop := (lawF L xs (sA μ m l) ∧ TextI (sA μ m l) ∧ RngI (sA μ m l)) ∧ JcP i μ m s q e ∧ ((m 16 1 = n ∧ m 125 2 = n ∧ 0 ≤ n ∧ n ≤ 2000) ∧ (∀ j, 0 ≤ m 17 j ∧ m 17 j ≤ 127) ∧ (∀ j, 0 ≤ m 126 j ∧ m 126 j ≤ 127) ∧ ∀ j, 0 ≤ j → j < n → m 17 j = m 126 j) ∧ ((∀ j, iR (m 165 j)) ∧ (∀ j, iR (m 151 j)) ∧ ∀ j, iR (m 175 j)) ∧ (∃ T0, CtI q (tN q) (tS q) m T0) ∧ (∃ (W : Int → Nat) (F0 : Nat), FtI W m F0) ∧ (m 98 0 = 0 ∧ m 103 0 = 0) ∧ (JoP m q ∨ ∃ (rs : List Rul) (X : Int → List Int → Prop) (W W' : Int → Nat) (N0 : Nat) (st : Option (List (List Cd))) (xp : Option (List (List (List Cd)) × List (List Nat))), JsP i m s q rs X W W' N0 st xp)
abbrev FmR (s q c : Nat) (j : Int) : Prop := SIc s q c j ∨ JoT q c j ∨ c = 106 ∨ (113 ≤ c ∧ c ≤ 122)
theorem fmr_1 {s q c : Nat} {j : Int} (hs : s = 22 ∨ s = 42) (hq : q = 85 ∨ 185 < q) (z : FmR s q c j) : ¬ WRd (64 - s) c j ∧ ¬ RdR c j := by
  have w : (s ≤ c ∧ c ≤ s + 19) ∨ (c = 16 ∧ ¬ j = 2) ∨ (70 ≤ c ∧ c ≤ 122) ∨ 185 < c ∨ (c = 125 ∧ (j = 4 ∨ j = 72 ∨ j = 81)) := by
    rcases z with z | z | z | z <;> omega
  clear z
  refine ⟨fun y => ?_, fun y => ?_⟩
  · rcases y with y | y | y | y <;> rcases w with w | w | w | w | w <;> omega
  · rcases y with y | y | y | y <;> rcases w with w | w | w | w | w <;> omega
theorem fmk_1 {s e c : Nat} {j : Int} (hs : s = 22 ∨ s = 42) (he : e = 108 ∨ 185 < e) (z : c = 0 ∨ c = 1 ∨ (c = 16 ∧ j = 1) ∨ c = 17 ∨ (s + 1 ≤ c ∧ c ≤ s + 4) ∨ c = 109 ∨ c = e ∨ (c = 125 ∧ (j = 2 ∨ j = 6)) ∨ c = 126 ∨ c = 127) : ¬ WRd (64 - s) c j ∧ ¬ RdR c j := by
  refine ⟨fun y => ?_, fun y => ?_⟩
  · rcases y with y | y | y | y <;> rcases z with z | z | z | z | z | z | z | z | z | z <;> omega
  · rcases y with y | y | y | y <;> rcases z with z | z | z | z | z | z | z | z | z | z <;> omega
theorem rdr_70 {c : Nat} {j : Int} (z : c ≤ 124) : ¬ RdR c j := fun y => by rcases y with y | y | y | y <;> omega
theorem rdk_2 {s c : Nat} {j : Int} (hs : s = 22 ∨ s = 42) (z : RdK c j) : ¬ WRd (64 - s) c j := fun y => by
  have w : 125 ≤ c := by rcases z with z | z | z <;> omega
  clear z
  rcases y with y | y | y | y <;> omega
theorem jr_bad (hb : JrB L xs i μ m l s q e n) (hS1 : SmS μ μ1) (H1 : CS μ1) (f1 : ∀ c j, ¬ WRd (64 - s) c j → m1 c j = m c j) (hC : CNm m1 (64 - s + 1)) (f2 : ∀ c j, ¬ RdR c j → m2 c j = m1 c j) (e16 : m1 16 2 = v) (e125 : m2 125 3 = v) (h128 : ∀ j, 0 ≤ m2 128 j ∧ m2 128 j ≤ 127) (hkeep : ∀ rs, pSh (m1 127) (m1 125 6) 60 0 [] = .inr rs → RV m2 rs ∧ nmL m2 = LsE (m1 127) (m1 125 6)) : lawF L xs (sA μ1 m2 l2) ∧ JtP (i + 1) (sA μ1 m2 l2) := by
  obtain ⟨hT, hJ, _, _, _, _, _, hm⟩ := hb
  obtain ⟨j1, j2, ⟨j3, j3'⟩, j4, ⟨j5, j5'⟩, ⟨j6, j6'⟩, _, ⟨j8, j8'⟩, ⟨j9, j9'⟩, j10, j11, j12⟩ := hJ
  have R1 := SmR_S hS1
  obtain ⟨r1, r2, r3, r4⟩ := id R1
  have he := j2.2.2.1.1
  have hq := j2.2.2.2.1
  have fm : ∀ c j, ¬ WRd (64 - s) c j ∧ ¬ RdR c j → m2 c j = m c j := fun c j z => (f2 c j z.2).trans (f1 c j z.1)
  have fk : ∀ c j, c = 0 ∨ c = 1 ∨ (c = 16 ∧ j = 1) ∨ c = 17 ∨ (s + 1 ≤ c ∧ c ≤ s + 4) ∨ c = 109 ∨ c = e ∨ (c = 125 ∧ (j = 2 ∨ j = 6)) ∨ c = 126 ∨ c = 127 → m2 c j = m c j := fun c j z => fm c j (fmk_1 j1 he z)
  obtain ⟨g1, g2, g3⟩ := jr_tl (L := L) (xs := xs) (l2 := l2) R1 (fun c j z => fk c j (by omega)) hT
  have S1 : ShX s μ1 q e := ShX_R R1 H1 ((hS1.2.2.2 70 2 (by omega)).trans j2.1.2.2.2.2.1) ((hS1.2.2.2 84 0 (by omega)).trans j2.1.2.2.2.2.2) j2
  have cnO : CNm m2 (64 - s + 1) := CNm_cg2 (funext fun x => f2 _ _ (rdr_70 (by omega))) (funext fun x => f2 _ _ (rdr_70 (by omega))) (funext fun x => f2 _ _ (rdr_70 (by omega))) hC
  have cnS : ∀ a, a = s + 1 → CNm m a → CNm m2 a := fun a ea h => CNm_cg2 (funext fun x => fk _ _ (by omega)) (funext fun x => fk _ _ (by omega)) (funext fun x => fk _ _ (by omega)) h
  have cn2 : CNm m2 23 ∧ CNm m2 43 := by
    rcases j1 with y | y
    · subst y
      exact ⟨cnS 23 rfl j8, cnO⟩
    · subst y
      exact ⟨cnO, cnS 43 rfl j8'⟩
  refine ⟨g1, g2, g3, μ1, m2, l2, s, q, e, rfl, ⟨j1, S1, ⟨(hS1.2.2.2 16 4 (by omega)).trans j3, (hS1.2.2.2 16 5 (by omega)).trans j3'⟩, RS_R R1 j4, ⟨?_, ?_⟩, ⟨by rw [r3]; exact j6, fun j hj => (fk 1 _ (by omega)).trans (j6' j hj)⟩, by rw [f2 16 2 (rdr_70 (by decide)), e16, e125], cn2, ⟨(fk 109 0 (by omega)).trans j9, fun j => by rw [fk e j (by omega)]; exact j9' j⟩, by rw [fk 125 6 (by omega)]; exact j10, fun j => by rw [fk 127 j (by omega)]; exact j11 j, h128⟩, ?_⟩
  · unfold nN at j5 ⊢
    omega
  · unfold sN at j5' ⊢
    omega
  · rcases hm with y | ⟨rs, X, W, W', N0, st, xp, k1, k2, k3, k4, k5, k6, k7⟩
    · exact Or.inl (JoP_cg (fun c j z => fm c j (fmr_1 j1 hq (Or.inr (Or.inl z)))) y)
    · have w127 : m1 127 = m 127 := funext fun j => f1 127 j (fmk_1 (e := e) j1 he (by omega)).1
      have w6 : m1 125 6 = m 125 6 := f1 125 6 (fmk_1 (e := e) j1 he (by omega)).1
      have hk := hkeep rs (by rw [w127, w6]; exact k6)
      rw [w127, w6] at hk
      have v127 : m2 127 = m 127 := funext fun j => fk 127 j (by omega)
      have v6 : m2 125 6 = m 125 6 := fk 125 6 (by omega)
      refine Or.inr ⟨rs, X, W, W', N0, st, xp, k1, ClI_cg j2 j1 (fun c j z => fm c j (fmr_1 j1 hq (Or.inl z))) k2, XpC_cg (fun c j z => fm c j (fmr_1 (s := s) (q := q) j1 hq ?_)) k3, (fm 16 6 (fmr_1 (s := s) (q := q) j1 hq (Or.inr (Or.inl (Or.inl ⟨rfl, Or.inl rfl⟩))))).trans k4, RfP_rd (by omega) (fun c j z => fm c j ⟨rdk_2 j1 z, rdk_1 z⟩) hk.1 (hk.2.trans k7.symm) k5, by rw [v127, v6]; exact k6, by rw [v127, v6]; exact hk.2⟩
      rcases z with z | z | z
      · exact Or.inr (Or.inl (Or.inl ⟨z.1, Or.inr (Or.inr z.2)⟩))
      · exact Or.inr (Or.inr (Or.inl z))
      · exact Or.inr (Or.inr (Or.inr z))
end LRD
