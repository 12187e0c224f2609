/-! ===== with a sheet: what a call of the class and one of the reference leave ===== -/
/-- with a sheet, ahead of a call -/
def JsB (L : Nat) (xs : Nat → Int32) (i : Nat) (μ : am_Mem) (m l : PM) (s q e : Nat) (rs : List Rul) (X : Int → List Int → Prop) (W W' : Int → Nat) (N0 : Nat) (st : Option (List (List Cd))) (xp : Option (List (List (List Cd)) × List (List Nat))) : Prop := lawF L xs (sA μ m l) ∧ TextI (sA μ m l) ∧ RngI (sA μ m l) ∧ JcP i μ m s q e ∧ JsP i m s q rs X W W' N0 st xp
/-- what the class's calls may write -/
abbrev WCa (q e c : Nat) (j : Int) : Prop := (c = 16 ∧ (j = 12 ∨ j = 14 ∨ j = 17)) ∨ (70 ≤ c ∧ c ≤ 124) ∨ (q ≤ c ∧ c ≤ q + 7) ∨ c = e
/-- behind the class's call -/
def ClR (i : Nat) (μ : am_Mem) (m : PM) (s q e : Nat) (rs : List Rul) (X : Int → List Int → Prop) (W : Int → Nat) (N0 : Nat) (st1 : Option (List (List Cd))) (xp1 : Option (List (List (List Cd)) × List (List Nat))) (μ1 : am_Mem) (m1 : PM) (q1 e1 : Nat) : Prop := Gx μ q e μ1 q1 e1 ∧ ShX s μ1 q1 e1 ∧ ClI X W s rs q1 m1 N0 st1 ∧ XpC rs m1 xp1 ∧ (m1 109 0 = 0 ∧ ∀ j, 0 ≤ m1 e1 j ∧ m1 e1 j ≤ 32767) ∧ ∀ c j, c < am_n μ → ¬ WCa q e c j → m1 c j = m c j
theorem wca_s {q c : Nat} {j : Int} {e : Nat} (z : ¬ WCa q e c j) : ¬ WCs q c j := fun y => z (by
  rcases y with y | y | y
  · exact Or.inl ⟨y.1, y.2.elim Or.inl (fun w => Or.inr (Or.inl w))⟩
  · exact Or.inr (Or.inl ⟨y.1, by omega⟩)
  · exact Or.inr (Or.inr (Or.inl y)))
theorem wca_x {q c : Nat} {j : Int} {e : Nat} (z : ¬ WCa q e c j) : ¬ WCx q e c j := fun y => z (by
  rcases y with y | y | y | y
  · exact Or.inl ⟨y.1, Or.inr (Or.inr y.2)⟩
  · exact Or.inr (Or.inl ⟨y.1, y.2.1⟩)
  · exact Or.inr (Or.inr (Or.inl y))
  · exact Or.inr (Or.inr (Or.inr y)))
theorem wcs_x {q e N c : Nat} {j : Int} (hq : q = 85 ∨ 185 < q) (he : e = 108 ∨ 185 < e) (hn : ¬ (q ≤ e ∧ e ≤ q + 7)) (heN : e < N) (hN : 186 ≤ N) (z : (c = 16 ∧ j = 17) ∨ c = 106 ∨ (113 ≤ c ∧ c ≤ 122) ∨ c = 109 ∨ c = e) : c < N ∧ ¬ WCs q c j := ⟨by omega, fun y => by rcases y with y | y | y <;> rcases z with z | z | z | z | z <;> omega⟩
theorem wca_r {q e N c : Nat} {j : Int} (hq : q = 85 ∨ 185 < q) (he : e = 108 ∨ 185 < e) (hN : 186 ≤ N) (z : c = 0 ∨ c = 1 ∨ (c = 16 ∧ (j = 1 ∨ j = 2 ∨ j = 6)) ∨ c = 17 ∨ (23 ≤ c ∧ c ≤ 26) ∨ (43 ≤ c ∧ c ≤ 46) ∨ (125 ≤ c ∧ c ≤ 184)) : c < N ∧ ¬ WCa q e c j := ⟨by omega, fun y => by rcases y with y | y | y | y <;> rcases z with z | z | z | z | z | z | z <;> omega⟩
theorem wpb_r {c : Nat} {j : Int} (z : c = 0 ∨ c = 1 ∨ (c = 16 ∧ (j = 1 ∨ j = 2 ∨ j = 6)) ∨ c = 17 ∨ (23 ≤ c ∧ c ≤ 26) ∨ (43 ≤ c ∧ c ≤ 46) ∨ (126 ≤ c ∧ c ≤ 130) ∨ (c = 125 ∧ (j = 2 ∨ j = 3 ∨ j = 6 ∨ j = 9))) : ¬ WPb c j := fun y => by rcases y with y | y <;> rcases z with z | z | z | z | z | z | z | z <;> omega
theorem wpb_c {s q c : Nat} {j : Int} (hs : s = 22 ∨ s = 42) (hq : q = 85 ∨ 185 < q) (z : SIc s q c j ∨ (c = 16 ∧ j = 17) ∨ c = 106 ∨ (113 ≤ c ∧ c ≤ 122) ∨ c = 109) : ¬ WPb c j := fun y => by
  have w : c < 125 ∨ 185 ≤ c := by omega
  clear z
  rcases y with y | y <;> omega
theorem wpb_e {e c : Nat} {j : Int} (he : e = 108 ∨ 185 < e) (z : c = e) : ¬ WPb c j := by omega
section LJN
variable {L i : Nat} {xs : Nat → Int32} {μ μ1 ν1 : am_Mem} {m l m1 : PM} {s q e N0 q1 e1 : Nat} {rs : List Rul} {X : Int → List Int → Prop} {W W' : Int → Nat} {st st1 : Option (List (List Cd))} {xp xp1 : Option (List (List (List Cd)) × List (List Nat))}
theorem ClR_s (hb : JsB L xs i μ m l s q e rs X W W' N0 st xp) (hG : Gx μ q e μ1 q1 e) (hS : ShX s μ1 q1 e) (hI : ClI X W s rs q1 m1 N0 st1) (f : ∀ c j, c < am_n μ → ¬ WCs q c j → m1 c j = m c j) : ClR i μ m s q e rs X W N0 st1 xp μ1 m1 q1 e := by
  obtain ⟨_, _, _, hJ, hJs⟩ := hb
  obtain ⟨_, ⟨_, _, ⟨x3, x4, x5⟩, x6, x7⟩, _, _, _, _, _, _, ⟨h9, h9'⟩, _⟩ := hJ
  obtain ⟨_, _, h3, _⟩ := hJs
  have w : ∀ c j, (c = 16 ∧ j = 17) ∨ c = 106 ∨ (113 ≤ c ∧ c ≤ 122) ∨ c = 109 ∨ c = e → m1 c j = m c j := fun c j z => f c j (wcs_x (j := j) x6 x3 x4 x5 x7 z).1 (wcs_x (j := j) x6 x3 x4 x5 x7 z).2
  exact ⟨hG, hS, hI, XpC_cg (fun c j z => w c j (by omega)) h3, ⟨(w 109 0 (by omega)).trans h9, fun j => by rw [w e j (by omega)]; exact h9' j⟩, fun c j hc z => f c j hc (wca_s z)⟩
theorem ClR_0 (hb : JsB L xs i μ m l s q e rs X W W' N0 st xp) : ClR i μ m s q e rs X W N0 st xp μ m q e := ClR_s hb Gx_r hb.2.2.2.1.2.1 hb.2.2.2.2.2.1 (fun _ _ _ _ => rfl)
theorem jr_law (hb : JsB L xs i μ m l s q e rs X W W' N0 st xp) (hc : ClR i μ m s q e rs X W N0 st1 xp1 μ1 m1 q1 e1) (hk : am_kd ν1 = am_kd μ1) {m2 l2 : PM} (f0 : ∀ j, m2 0 j = m1 0 j) : lawF L xs (sA ν1 m2 l2) := by
  obtain ⟨⟨a1, a2, a3, a4, a5⟩, _, _, hJ, _⟩ := hb
  obtain ⟨c1, c2, c3, c4, c5, c6⟩ := hc
  obtain ⟨_, ⟨_, _, ⟨x3, x4, x5⟩, x6, x7⟩, _⟩ := hJ
  have kk : ∀ c, c < 186 → am_kd ν1 c = am_kd μ c := fun c hc => by rw [hk]; exact c1.2.1 c (by omega)
  refine ⟨(kk 0 (by decide)).trans a1, fun j => ?_, (kk 16 (by decide)).trans a3, (kk 125 (by decide)).trans a4, (kk 185 (by decide)).trans a5⟩
  have e0 : m2 0 (j : Int) = m 0 (j : Int) := (f0 _).trans (c6 0 _ (wca_r (q := q) (e := e) (j := (j : Int)) x6 x3 x7 (by omega)).1 (wca_r x6 x3 x7 (by omega)).2)
  show zI (m2 0 (j : Int)) = xs j
  rw [e0]
  exact a2 j
theorem jr_mid (hb : JsB L xs i μ m l s q e rs X W W' N0 st xp) (hc : ClR i μ m s q e rs X W N0 st1 xp1 μ1 m1 q1 e1) : RfP W' rs (rlS rs) (80000 + 20 * i) m1 st xp ∧ RS μ1 ∧ RS (am_nX μ1) ∧ GoS rs ∧ ∀ c j, 125 ≤ c ∧ c ≤ 184 → m1 c j = m c j := by
  obtain ⟨_, _, _, hJ, hJs⟩ := hb
  obtain ⟨c1, c2, c3, c4, c5, c6⟩ := hc
  obtain ⟨_, ⟨_, _, ⟨x3, x4, x5⟩, x6, x7⟩, _, j4, _⟩ := hJ
  have w : ∀ c j, 125 ≤ c ∧ c ≤ 184 → m1 c j = m c j := fun c j z => c6 c j (wca_r (q := q) (e := e) (j := j) x6 x3 x7 (by omega)).1 (wca_r x6 x3 x7 (by omega)).2
  exact ⟨RfP_cg (rlS_ok rs).2 (Nat.le_refl _) (fun c j z => w c j (by omega)) hJs.2.2.2.2.1, RS_G x7 c1 j4, RS_k (μ := μ1) rfl rfl (RS_G x7 c1 j4), hJs.1, w⟩
theorem jr_join (hb : JsB L xs i μ m l s q e rs X W W' N0 st xp) (hc : ClR i μ m s q e rs X W N0 st1 xp1 μ1 m1 q1 e1) (hk : am_kd ν1 = am_kd μ1) (hF : am_F ν1 = am_F μ1) (hn : am_n μ1 ≤ am_n ν1 ∧ am_n ν1 ≤ am_n μ1 + 1) (hsl : am_sl ν1 ≤ am_sl μ1 + 6) {B : Nat} (hB : B ≤ 80000 + 20 * (i + 1)) {m2 l2 : PM} (hr : RfP W' rs (rlS rs) B m2 st1 xp1) (fr : ∀ c j, ¬ WPb c j → m2 c j = m1 c j) : lawF L xs (sA ν1 m2 l2) ∧ JtP (i + 1) (sA ν1 m2 l2) := by
  have hlaw : lawF L xs (sA ν1 m2 l2) := jr_law (ν1 := ν1) hb hc hk (fun j => fr 0 j (by omega))
  obtain ⟨_, hT, hR, hJ, hJs⟩ := hb
  obtain ⟨c1, c2, c3, c4, ⟨c5, c5'⟩, c6⟩ := hc
  obtain ⟨j1, j2, ⟨j3, j3'⟩, j4, ⟨j5, j5'⟩, ⟨j6, j6'⟩, j7, ⟨j8, j8'⟩, _, j10, j11, j12⟩ := hJ
  obtain ⟨_, _, ⟨x3, x4, x5⟩, x6, x7⟩ := id j2
  obtain ⟨_, _, ⟨y3, y4, y5⟩, y6, y7⟩ := id c2
  obtain ⟨k1, k2, k3, k4, k5, k6, k7⟩ := hJs
  have cl : ∀ c j, c = 0 ∨ c = 1 ∨ (c = 16 ∧ (j = 1 ∨ j = 2 ∨ j = 6)) ∨ c = 17 ∨ (23 ≤ c ∧ c ≤ 26) ∨ (43 ≤ c ∧ c ≤ 46) ∨ (125 ≤ c ∧ c ≤ 184) → m1 c j = m c j := fun c j z => c6 c j (wca_r (q := q) (e := e) (j := j) x6 x3 x7 z).1 (wca_r x6 x3 x7 z).2
  have f : ∀ c j, c = 0 ∨ c = 1 ∨ (c = 16 ∧ (j = 1 ∨ j = 2 ∨ j = 6)) ∨ c = 17 ∨ (23 ≤ c ∧ c ≤ 26) ∨ (43 ≤ c ∧ c ≤ 46) ∨ (126 ≤ c ∧ c ≤ 130) ∨ (c = 125 ∧ (j = 2 ∨ j = 3 ∨ j = 6 ∨ j = 9)) → m2 c j = m c j := fun c j z => (fr c j (wpb_r z)).trans (cl c j (by omega))
  have kk : ∀ c, c < 186 → am_kd ν1 c = am_kd μ c := fun c hc => by rw [hk]; exact c1.2.1 c (by omega)
  have ff : ∀ c f, ¬ (c = 84 ∧ 1 ≤ f ∧ f ≤ 8) → ¬ (c = 107 ∧ f = 0) → am_F ν1 c f = am_F μ c f := fun c f h1 h2 => by rw [hF]; exact c1.2.2.1 c f h1 h2
  have S1 : ShX s ν1 q1 e1 := ShX_k hk hF hn.1 c2
  have R1 : RS ν1 := RS_k hk hF (RS_G x7 c1 j4)
  refine ⟨hlaw, ?_, fun j => ?_, ν1, m2, l2, s, q1, e1, rfl, ⟨j1, S1, ⟨(ff 16 4 (by omega) (by omega)).trans j3, (ff 16 5 (by omega) (by omega)).trans j3'⟩, R1, ⟨?_, ?_⟩, ⟨(kk 1 (by decide)).trans j6, fun j hj => (f 1 _ (by omega)).trans (j6' j hj)⟩, by rw [f 16 2 (by omega), f 125 3 (by omega)]; exact j7, ⟨?_, ?_⟩, ⟨(fr 109 0 (by omega)).trans c5, fun j => by rw [fr e1 j (wpb_e y3 rfl)]; exact c5' j⟩, by rw [f 125 6 (by omega)]; exact j10, fun j => by rw [f 127 j (by omega)]; exact j11 j, fun j => by rw [f 128 j (by omega)]; exact j12 j⟩, Or.inr ⟨rs, X, W, W', N0, st1, xp1, k1, ClI_cg c2 j1 (fun c j z => fr c j (wpb_c j1 y6 (Or.inl z))) c3, XpC_cg (fun c j z => fr c j (wpb_c (s := s) (q := q1) j1 y6 (Or.inr (z.elim Or.inl (fun z => Or.inr (z.elim Or.inl (fun z => Or.inr (Or.inl z)))))))) c4, (f 16 6 (by omega)).trans k4, RfP_cg (rlS_ok rs).2 hB (fun _ _ _ => rfl) hr, ?_, ?_⟩⟩
  · obtain ⟨n, h1, ⟨h2, h3, h4⟩, ⟨h5, h6, h7⟩, h8⟩ := hT
    refine ⟨n, h1, ⟨(ff 16 0 (by omega) (by omega)).trans h2, (kk 17 (by decide)).trans h3, ?_⟩, ⟨(ff 125 1 (by omega) (by omega)).trans h5, (kk 126 (by decide)).trans h6, ?_⟩, fun j hj => ?_⟩
    · show zI (m2 16 1) = nI n
      rw [f 16 1 (by omega)]
      exact h4
    · show zI (m2 125 2) = nI n
      rw [f 125 2 (by omega)]
      exact h7
    · show zI (m2 17 (j : Int)) = zI (m2 126 (j : Int))
      rw [f 17 _ (by omega), f 126 _ (by omega)]
      exact h8 j hj
  · obtain ⟨r1, r2⟩ := hR j
    refine ⟨?_, ?_⟩
    · show sgR (zI (m2 17 (j : Int)))
      rw [f 17 _ (by omega)]
      exact r1
    · show sgR (zI (m2 126 (j : Int)))
      rw [f 126 _ (by omega)]
      exact r2
  · have g := c1.2.2.2.2.2.1
    unfold nN at g j5 ⊢
    omega
  · have g := c1.2.2.2.2.2.2
    unfold sN at g j5' ⊢
    omega
  · exact CNm_cg2 (funext fun x => f _ _ (by omega)) (funext fun x => f _ _ (by omega)) (funext fun x => f _ _ (by omega)) j8
  · exact CNm_cg2 (funext fun x => f _ _ (by omega)) (funext fun x => f _ _ (by omega)) (funext fun x => f _ _ (by omega)) j8'
  · rw [show m2 127 = m 127 from funext fun j => f _ _ (by omega), f 125 6 (by omega)]
    exact k6
  · rw [show m2 127 = m 127 from funext fun j => f _ _ (by omega), f 125 6 (by omega), ← k7]
    exact nmL_cg (f _ _ (by omega)) (fun j => f _ _ (by omega)) (fun j => f _ _ (by omega))
/-- where the two meet: the code k, the answer by F -/
abbrev PoF (L : Nat) (xs : Nat → Int32) (i : Nat) (F : Int32 → Int64) (k : Int32) : Int32 → am_Mem → Prop := fun b μ2 => lawF L xs μ2 ∧ JtP (i + 1) μ2 ∧ am_A μ2 125 0 = k ∧ (k = 0 → am_L μ2 185 (Int32.ofInt 0).toNatClampNeg = F b)
theorem jr_ok {D kr B : Nat} {R : am_Mem → List (Option Value)} {A : List (Option Value)} {F : Int32 → Int64} {l1 : PM} {v : Int} (hb : JsB L xs i μ m l s q e rs X W W' N0 st xp) (hA : ∀ ν, lawF L xs ν → R ν = A) (hc : ClR i μ m s q e rs X W N0 st1 xp1 μ1 m1 q1 e1) (hB : B ≤ 80000 + 20 * (i + 1)) (hR : ∀ (l0 : PM) (Q : Option Value ⊕ Nat → am_Mem → Prop), (∀ m2 l2 : PM, RfP W' rs (rlS rs) B m2 st1 xp1 → m2 125 0 = 0 → (∀ c j, ¬ WPb c j → m2 c j = m1 c j) → (∀ c j, ¬ (c = 125 ∧ j = 57) → l2 c j = l0 c j) → Q (.inl (some (.int (zI v)))) (sA μ1 m2 l2)) → Wp D kr (0, A, [], sA μ1 m1 l0) Q) :
    am_kd (sA μ1 m1 l1) 185 = (6, 1) ∧ lawF L xs (am_pL (sA μ1 m1 l1) 185 (Int32.ofInt 0).toNatClampNeg (F (zI v))) ∧ Wp D kr (0, R (am_pL (sA μ1 m1 l1) 185 (Int32.ofInt 0).toNatClampNeg (F (zI v))), [], am_pL (sA μ1 m1 l1) 185 (Int32.ofInt 0).toNatClampNeg (F (zI v))) (pI (PoF L xs i F (Int32.ofInt 0)) noX) := by
  have ew : am_pL (sA μ1 m1 l1) 185 (Int32.ofInt 0).toNatClampNeg (F (zI v)) = sA μ1 m1 (up l1 185 (((Int32.ofInt 0).toNatClampNeg : Nat) : Int) (F (zI v)).toInt) := wlE (mr μ1 m1 l1) rfl rfl (zL_rev _).symm
  have hlaw : ∀ l', lawF L xs (sA μ1 m1 l') := fun l' => jr_law (ν1 := μ1) hb hc rfl (fun _ => rfl)
  rw [ew, hA _ (hlaw _)]
  refine ⟨(hlaw l1).2.2.2.2, hlaw _, hR _ _ (fun m2 l2 rf k fr frl => ?_)⟩
  obtain ⟨g1, g2⟩ := jr_join (ν1 := μ1) (l2 := l2) hb hc rfl rfl ⟨Nat.le_refl _, Nat.le_succ _⟩ (Nat.le_add_right _ _) hB rf fr
  show PoF L xs i F (Int32.ofInt 0) (zI v) (sA μ1 m2 l2)
  refine ⟨g1, g2, ?_, fun _ => ?_⟩
  · show zI (m2 125 0) = Int32.ofInt 0
    rw [k]
    rfl
  · show zL (l2 185 _) = F (zI v)
    rw [frl 185 _ (by omega), up_s]
    exact zL_rev _
theorem jr_thr {D kr B : Nat} {R : am_Mem → List (Option Value)} {A : List (Option Value)} {F : Int32 → Int64} {l1 : PM} {kk : Int} (hk0 : ¬ Int32.ofInt kk = 0) (hb : JsB L xs i μ m l s q e rs X W W' N0 st xp) (hA : ∀ ν, lawF L xs ν → R ν = A) (hc : ClR i μ m s q e rs X W N0 st1 xp1 μ1 m1 q1 e1) (hB : B ≤ 80000 + 20 * (i + 1)) (hR : ∀ (l0 : PM) (Q : Option Value ⊕ Nat → am_Mem → Prop), (∀ (m2 l2 : PM) (v : Int), RfP W' rs (rlS rs) B m2 st1 xp1 → m2 125 0 = kk → (∀ c j, ¬ WPb c j → m2 c j = m1 c j) → Q (.inl (some (.int (zI v)))) (sA (am_nX μ1) m2 l2)) → Wp D kr (0, A, [], sA (am_nX μ1) m1 l0) Q) :
    lawF L xs (sA (am_nX μ1) m1 l1) ∧ Wp D kr (0, R (sA (am_nX μ1) m1 l1), [], sA (am_nX μ1) m1 l1) (pI (PoF L xs i F (Int32.ofInt kk)) noX) := by
  have hlaw : lawF L xs (sA (am_nX μ1) m1 l1) := jr_law (ν1 := am_nX μ1) hb hc rfl (fun _ => rfl)
  rw [hA _ hlaw]
  refine ⟨hlaw, hR _ _ (fun m2 l2 v rf k fr => ?_)⟩
  obtain ⟨g1, g2⟩ := jr_join (ν1 := am_nX μ1) (l2 := l2) hb hc rfl rfl ⟨Nat.le_succ _, Nat.le_refl _⟩ (Nat.le_refl _) hB rf fr
  show PoF L xs i F (Int32.ofInt kk) (zI v) (sA (am_nX μ1) m2 l2)
  refine ⟨g1, g2, ?_, fun z => absurd z hk0⟩
  show zI (m2 125 0) = Int32.ofInt kk
  rw [k]
  rfl
end LJN
