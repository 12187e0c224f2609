/-! ===== the two together: what is between calls ===== -/
/-- what of the reference is kept by a step that is not its own -/
abbrev RfT (c : Nat) (j : Int) : Prop := (c = 125 ∧ ¬ (j = 0 ∨ j = 2)) ∨ (127 ≤ c ∧ c ≤ 184 ∧ ¬ c = 175)
theorem RfP_cg {W : Int → Nat} {rs : List Rul} {L : List (List Cd)} {B B' : Nat} {m m' : PM} {st : Option (List (List Cd))} {xp : Option (List (List (List Cd)) × List (List Nat))} (hL : L.length ≤ 4) (hB : B ≤ B') (k : ∀ c j, RfT c j → m' c j = m c j) (h : RfP W rs L B m st xp) : RfP W rs L B' m' st xp := by
  obtain ⟨h1, h2, h3, h4, h5⟩ := h
  refine ⟨BsR_cg h1 (fun c j z => k c j (by omega)), (k 125 4 (by omega)).trans h2, StP_cg (fun c j z => k c j (by omega)) h3, ?_, XpP_cg (fun c j z => k c j (by omega)) h5⟩
  rcases h4 with y | ⟨y, s, e, w⟩
  · exact Or.inl ((k 125 75 (by omega)).trans y)
  · exact Or.inr ⟨(k 125 75 (by omega)).trans y, s, e, WkP_cg hL hB (fun c j z => k c j (by omega)) w⟩
theorem XpC_cg {rs : List Rul} {m m' : PM} {xp : Option (List (List (List Cd)) × List (List Nat))} (k : ∀ c j, (c = 16 ∧ j = 17) ∨ c = 106 ∨ (113 ≤ c ∧ c ≤ 122) → m' c j = m c j) (h : XpC rs m xp) : XpC rs m' xp := by
  cases xp with
  | none =>
    have h' : m 16 17 = 0 ∨ (m 16 17 = 2 ∧ xO rs (rlS rs) = none) := h
    show m' 16 17 = 0 ∨ (m' 16 17 = 2 ∧ xO rs (rlS rs) = none)
    rw [k 16 17 (by omega)]
    exact h'
  | some p =>
    have h' : XkC rs m p.1 p.2 := h
    obtain ⟨h1, h2, h3, h4, h5⟩ := h'
    have e121 : (fun b : Nat => m' 121 (b : Int)) = fun b : Nat => m 121 (b : Int) := funext fun b => k _ _ (by omega)
    refine ⟨(k _ _ (by omega)).trans h1, TbC_cg (fun c j z => k c j (by omega)) h2, fun i hi => (k _ _ (by omega)).trans (h3 i hi), by rw [k 106 13 (by omega), k 106 14 (by omega)]; exact h4, fun z => ?_⟩
    rw [k 106 13 (by omega)] at z
    obtain ⟨v1, v2⟩ := h5 z
    rw [e121]
    refine ⟨v1, fun i hi => ?_⟩
    rw [k 121 _ (by omega), k 122 _ (by omega)]
    exact v2 i hi
theorem ShX_k {s q e : Nat} {μ μ' : am_Mem} (hk : am_kd μ' = am_kd μ) (hF : am_F μ' = am_F μ) (hn : am_n μ ≤ am_n μ') (h : ShX s μ q e) : ShX s μ' q e := by
  obtain ⟨⟨⟨c1, c2⟩, ⟨t1, t2⟩, h3, ⟨h4, h4'⟩, h5, h6⟩, ⟨x1, x2⟩, ⟨x3, x4, x5⟩, x6, x7⟩ := h
  refine ⟨⟨⟨fun i hi => by rw [hk]; exact c1 i hi, fun j hj => by rw [hF]; exact c2 j hj⟩, ⟨by rw [hF]; exact t1, by rw [hk]; exact t2⟩, h3, ⟨by omega, by omega⟩, by rw [hF]; exact h5, by rw [hF]; exact h6⟩, ⟨by rw [hF]; exact x1, by rw [hk]; exact x2⟩, ⟨x3, x4, by omega⟩, x6, by omega⟩
theorem RS_k {μ μ' : am_Mem} (hk : am_kd μ' = am_kd μ) (hF : am_F μ' = am_F μ) (h : RS μ) : RS μ' := ⟨fun i hi => by rw [hk]; exact h.1 i hi, fun f hf => by rw [hF]; exact h.2 f hf⟩
theorem RS_G {μ μ' : am_Mem} {q e q' e' : Nat} (h186 : 186 ≤ am_n μ) (hG : Gx μ q e μ' q' e') (h : RS μ) : RS μ' := ⟨fun i hi => by rw [hG.2.1 (125 + i) (by omega)]; exact h.1 i hi, fun f hf => by rw [hG.2.2.1 125 f (by omega) (by omega)]; exact h.2 f hf⟩
/-- in both modes: the shape, the room, what is kept -/
def JcP (i : Nat) (μ : am_Mem) (m : PM) (s q e : Nat) : Prop := (s = 22 ∨ s = 42) ∧ ShX s μ q e ∧ (am_F μ 16 4 = s ∧ am_F μ 16 5 = 64 - s) ∧ RS μ ∧ (nN μ q e ≤ 195 + i ∧ sN μ q e ≤ 3532101 + 6 * i) ∧ (am_kd μ 1 = (8, 8) ∧ ∀ j : Nat, j < 8 → m 1 (j : Int) = fixV.getD j 0) ∧ m 16 2 = m 125 3 ∧ (CNm m 23 ∧ CNm m 43) ∧ (m 109 0 = 0 ∧ ∀ j, 0 ≤ m e j ∧ m e j ≤ 32767) ∧ (0 ≤ m 125 6 ∧ m 125 6 ≤ 2000) ∧ (∀ j, 0 ≤ m 127 j ∧ m 127 j ≤ 127) ∧ ∀ j, 0 ≤ m 128 j ∧ m 128 j ≤ 127
/-- without a sheet -/
def JoP (m : PM) (q : Nat) : Prop := (m 16 6 = 0 ∧ m 16 12 = -1 ∧ m 16 17 = 0) ∧ (m 125 4 = 0 ∧ m 125 72 = 0 ∧ m 125 81 = 0) ∧ (m 98 0 = 0 ∧ m 103 0 = 0) ∧ (∃ T0, CtI q (tN q) (tS q) m T0) ∧ ∃ (W : Int → Nat) (F0 : Nat), FtI W m F0
/-- with a sheet -/
def JsP (i : Nat) (m : PM) (s q : Nat) (rs : List Rul) (X : Int → List Int → Prop) (W W' : Int → Nat) (N0 : Nat) (st : Option (List (List Cd))) (xp : Option (List (List (List Cd)) × List (List Nat))) : Prop := GoS rs ∧ ClI X W s rs q m N0 st ∧ XpC rs m xp ∧ m 16 6 = 1 ∧ RfP W' rs (rlS rs) (80000 + 20 * i) m st xp ∧ pSh (m 127) (m 125 6) 60 0 [] = .inr rs ∧ nmL m = LsE (m 127) (m 125 6)
/-- between calls -/
def JtP (i : Nat) (ν : am_Mem) : Prop := TextI ν ∧ RngI ν ∧ ∃ (μ : am_Mem) (m l : PM) (s q e : Nat), ν = sA μ m l ∧ JcP i μ m s q e ∧ (JoP m q ∨ ∃ (rs : List Rul) (X : Int → List Int → Prop) (W W' : Int → Nat) (N0 : Nat) (st : Option (List (List Cd))) (xp : Option (List (List (List Cd)) × List (List Nat))), JsP i m s q rs X W W' N0 st xp)
/-- what of both is kept by a step that is neither's -/
abbrev JcT (e c : Nat) (j : Int) : Prop := c = 1 ∨ (c = 16 ∧ j = 2) ∨ (c = 125 ∧ (j = 3 ∨ j = 6)) ∨ (23 ≤ c ∧ c ≤ 26) ∨ (43 ≤ c ∧ c ≤ 46) ∨ c = 109 ∨ c = e ∨ c = 127 ∨ c = 128
theorem JcP_k {i : Nat} {μ μ' : am_Mem} {m m' : PM} {s q e : Nat} (hk : am_kd μ' = am_kd μ) (hF : am_F μ' = am_F μ) (hn : am_n μ ≤ am_n μ') (hn' : am_n μ' ≤ am_n μ + 1) (hs' : am_sl μ' ≤ am_sl μ + 6) (k : ∀ c j, JcT e c j → m' c j = m c j) (h : JcP i μ m s q e) : JcP (i + 1) μ' m' s q e := by
  obtain ⟨h1, h2, ⟨h3, h3'⟩, h4, ⟨h5, h5'⟩, ⟨h6, h6'⟩, h7, ⟨h8, h8'⟩, ⟨h9, h9'⟩, h10, h11, h12⟩ := h
  unfold nN at h5
  unfold sN at h5'
  refine ⟨h1, ShX_k hk hF hn h2, ⟨by rw [hF]; exact h3, by rw [hF]; exact h3'⟩, RS_k hk hF h4, ⟨by unfold nN; omega, by unfold sN; omega⟩, ⟨by rw [hk]; exact h6, fun j hj => (k _ _ (by omega)).trans (h6' j hj)⟩, by rw [k 16 2 (by omega), k 125 3 (by omega)]; exact h7, ⟨?_, ?_⟩, ⟨(k _ _ (by omega)).trans h9, fun j => by rw [k e j (by omega)]; exact h9' j⟩, by rw [k 125 6 (by omega)]; exact h10, fun j => by rw [k 127 j (by omega)]; exact h11 j, fun j => by rw [k 128 j (by omega)]; exact h12 j⟩
  · exact CNm_cg2 (funext fun x => k _ _ (by omega)) (funext fun x => k _ _ (by omega)) (funext fun x => k _ _ (by omega)) h8
  · exact CNm_cg2 (funext fun x => k _ _ (by omega)) (funext fun x => k _ _ (by omega)) (funext fun x => k _ _ (by omega)) h8'
theorem JcP_0 {i : Nat} {μ : am_Mem} {m m' : PM} {s q e : Nat} (k : ∀ c j, JcT e c j → m' c j = m c j) (h : JcP i μ m s q e) : JcP i μ m' s q e := by
  obtain ⟨h1, h2, h3, h4, h5, ⟨h6, h6'⟩, h7, ⟨h8, h8'⟩, ⟨h9, h9'⟩, h10, h11, h12⟩ := h
  refine ⟨h1, h2, h3, h4, h5, ⟨h6, fun j hj => (k _ _ (by omega)).trans (h6' j hj)⟩, by rw [k 16 2 (by omega), k 125 3 (by omega)]; exact h7, ⟨?_, ?_⟩, ⟨(k _ _ (by omega)).trans h9, fun j => by rw [k e j (by omega)]; exact h9' j⟩, by rw [k 125 6 (by omega)]; exact h10, fun j => by rw [k 127 j (by omega)]; exact h11 j, fun j => by rw [k 128 j (by omega)]; exact h12 j⟩
  · exact CNm_cg2 (funext fun x => k _ _ (by omega)) (funext fun x => k _ _ (by omega)) (funext fun x => k _ _ (by omega)) h8
  · exact CNm_cg2 (funext fun x => k _ _ (by omega)) (funext fun x => k _ _ (by omega)) (funext fun x => k _ _ (by omega)) h8'
theorem CtI_cg8 {q N S T : Nat} {m m' : PM} (k : ∀ c j, (q ≤ c ∧ c ≤ q + 7) ∨ (c = 84 ∧ j = 9) → m' c j = m c j) (h : CtI q N S m T) : CtI q N S m' T := by
  have e0 : m' q = m q := funext fun j => k _ _ (by omega)
  have e1 : m' (q + 1) = m (q + 1) := funext fun j => k _ _ (by omega)
  have e2 : m' (q + 2) = m (q + 2) := funext fun j => k _ _ (by omega)
  have e4 : m' (q + 4) = m (q + 4) := funext fun j => k _ _ (by omega)
  have e5 : m' (q + 5) = m (q + 5) := funext fun j => k _ _ (by omega)
  have e7 : m' (q + 7) = m (q + 7) := funext fun j => k _ _ (by omega)
  have e9 : m' 84 9 = m 84 9 := k _ _ (by omega)
  unfold CtI
  rw [e0, e1, e2, e4, e5, e7, e9]
  exact h
abbrev JoT (q c : Nat) (j : Int) : Prop := (c = 16 ∧ (j = 6 ∨ j = 12 ∨ j = 17)) ∨ (c = 125 ∧ (j = 4 ∨ j = 72 ∨ j = 81)) ∨ c = 98 ∨ c = 103 ∨ (q ≤ c ∧ c ≤ q + 7) ∨ (c = 84 ∧ j = 9) ∨ (c = 71 ∧ j = 7) ∨ (72 ≤ c ∧ c ≤ 78)
theorem JoP_cg {q : Nat} {m m' : PM} (k : ∀ c j, JoT q c j → m' c j = m c j) (h : JoP m q) : JoP m' q := by
  obtain ⟨⟨a1, a2, a3⟩, ⟨b1, b2, b3⟩, ⟨c1, c2⟩, ⟨T0, d1⟩, W, F0, e1⟩ := h
  exact ⟨⟨(k _ _ (by omega)).trans a1, (k _ _ (by omega)).trans a2, (k _ _ (by omega)).trans a3⟩, ⟨(k _ _ (by omega)).trans b1, (k _ _ (by omega)).trans b2, (k _ _ (by omega)).trans b3⟩, ⟨(k _ _ (by omega)).trans c1, (k _ _ (by omega)).trans c2⟩, ⟨T0, CtI_cg8 (fun c j z => k c j (z.elim (fun z => Or.inr (Or.inr (Or.inr (Or.inr (Or.inl z))))) (fun z => Or.inr (Or.inr (Or.inr (Or.inr (Or.inr (Or.inl z)))))))) d1⟩, W, F0, FtI_o (fun c j z => k c j (z.elim (fun z => Or.inr (Or.inr (Or.inr (Or.inr (Or.inr (Or.inr (Or.inr z))))))) (fun z => Or.inr (Or.inr (Or.inr (Or.inr (Or.inr (Or.inr (Or.inl z))))))))) e1⟩
theorem JsP_cg {i i' s q e N0 : Nat} {μ : am_Mem} {m m' : PM} {rs : List Rul} {X : Int → List Int → Prop} {W W' : Int → Nat} {st : Option (List (List Cd))} {xp : Option (List (List (List Cd)) × List (List Nat))} (hi : i ≤ i') (hS : ShX s μ q e) (hs : s = 22 ∨ s = 42) (k : ∀ c j, SIc s q c j ∨ (c = 16 ∧ (j = 6 ∨ j = 17)) ∨ c = 106 ∨ (113 ≤ c ∧ c ≤ 122) ∨ RfT c j → m' c j = m c j) (h : JsP i m s q rs X W W' N0 st xp) : JsP i' m' s q rs X W W' N0 st xp := by
  obtain ⟨h1, h2, h3, h4, h5, h6, h7⟩ := h
  have kr : ∀ c j, RfT c j → m' c j = m c j := fun c j z => k c j (Or.inr (Or.inr (Or.inr (Or.inr z))))
  have e127 : m' 127 = m 127 := funext fun j => kr _ _ (Or.inr ⟨by decide, by decide, by decide⟩)
  have e6 : m' 125 6 = m 125 6 := kr _ _ (Or.inl ⟨rfl, by decide⟩)
  refine ⟨h1, ClI_cg hS hs (fun c j z => k c j (Or.inl z)) h2, XpC_cg (fun c j z => k c j ?_) h3, (k _ _ (Or.inr (Or.inl ⟨rfl, Or.inl rfl⟩))).trans h4, RfP_cg (rlS_ok rs).2 (by omega) kr h5, by rw [e127, e6]; exact h6, ?_⟩
  · rcases z with z | z | z
    · exact Or.inr (Or.inl ⟨z.1, Or.inr z.2⟩)
    · exact Or.inr (Or.inr (Or.inl z))
    · exact Or.inr (Or.inr (Or.inr (Or.inl z)))
  rw [e127, e6, ← h7]
  exact nmL_cg (kr _ _ (Or.inl ⟨rfl, by decide⟩)) (fun j => kr _ _ (Or.inr ⟨by decide, by decide, by decide⟩)) (fun j => kr _ _ (Or.inr ⟨by decide, by decide, by decide⟩))
/-- ints made whole again, where P says so -/
theorem tx_m {μ μ' : am_Mem} {m l : PM} {P : Nat → Int → Prop} (h : ∀ (r j : Nat), ¬ P r (j : Int) → am_A μ' r j = am_A (sA μ m l) r j ∧ am_L μ' r j = am_L (sA μ m l) r j) : ∃ m' l' : PM, μ' = sA μ' m' l' ∧ (∀ c j, ¬ P c j → m' c j = m c j) ∧ (∀ c j, ¬ P c j → l' c j = l c j) ∧ ∀ c j, P c j → m' c j = (am_A μ' c j.toNat).toInt := by
  refine ⟨fun c j => @ite _ (P c j) (Classical.propDecidable _) (am_A μ' c j.toNat).toInt (m c j), fun c j => @ite _ (P c j) (Classical.propDecidable _) (am_L μ' c j.toNat).toInt (l c j), ?_, fun c j z => if_neg z, fun c j z => if_neg z, fun c j z => if_pos z⟩
  refine Prod.ext rfl (Prod.ext rfl (Prod.ext rfl (Prod.ext ?_ (Prod.ext ?_ rfl))))
  · funext c j
    show am_A μ' c j = zI (@ite _ (P c (j : Int)) (Classical.propDecidable _) (am_A μ' c ((j : Int)).toNat).toInt (m c j))
    by_cases y : P c (j : Int)
    · rw [if_pos y, zI_rev]
      rfl
    · rw [if_neg y]
      exact (h c j y).1
  · funext c j
    show am_L μ' c j = zL (@ite _ (P c (j : Int)) (Classical.propDecidable _) (am_L μ' c ((j : Int)).toNat).toInt (l c j))
    by_cases y : P c (j : Int)
    · rw [if_pos y, zL_rev]
      rfl
    · rw [if_neg y]
      exact (h c j y).2
