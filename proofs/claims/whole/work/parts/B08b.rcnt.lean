/-! ===== the reference's checkCounts ===== -/
/-- what the checks may write -/
abbrev WKc (c : Nat) (j : Int) : Prop := c = 147 ∨ c = 148 ∨ (c = 125 ∧ (j = 32 ∨ j = 33))
/-- the reference holds these rules -/
def RV (m : PM) (rs : List Rul) : Prop := ShR m rs ∧ NmW m ∧ NmD m ∧ (m 125 9 ≤ 1010 ∧ 0 ≤ m 125 22 ∧ m 125 22 ≤ 1000) ∧ rs.length ≤ 60 ∧ OkS rs
theorem RV_cg {m m' : PM} {rs : List Rul} (k : ∀ c j, ¬ WKc c j → m' c j = m c j) (h : RV m rs) : RV m' rs := by
  obtain ⟨⟨h1, h2, h3, h4, h5, h6⟩, w, dd, b, n60, ok⟩ := h
  have e9 : m' 125 9 = m 125 9 := k _ _ (by omega)
  have e22 : m' 125 22 = m 125 22 := k _ _ (by omega)
  have e18 : m' 125 18 = m 125 18 := k _ _ (by omega)
  have e15 : m' 125 15 = m 125 15 := k _ _ (by omega)
  have e129 : ∀ i, m' 129 i = m 129 i := fun i => k _ _ (by omega)
  have e130 : ∀ i, m' 130 i = m 130 i := fun i => k _ _ (by omega)
  have e131 : ∀ i, m' 131 i = m 131 i := fun i => k _ _ (by omega)
  have e132 : ∀ i, m' 132 i = m 132 i := fun i => k _ _ (by omega)
  have e133 : ∀ i, m' 133 i = m 133 i := fun i => k _ _ (by omega)
  have e134 : ∀ i, m' 134 i = m 134 i := fun i => k _ _ (by omega)
  have hA : ∀ {a : Int} {at_ : Atm} {d : Bool}, AtR m a at_ d (m 125 22) → AtR m' a at_ d (m' 125 22) := fun z => AtR_cg (fun x u q => nX_cg e9 e129 e130 q) (by omega) (k _ _ (by omega)) (k _ _ (by omega)) (fun j _ _ => k _ _ (by omega)) (fun j _ _ => ⟨k _ _ (by omega), k _ _ (by omega), k _ _ (by omega), k _ _ (by omega)⟩) (fun j _ _ => k _ _ (by omega)) z
  refine ⟨⟨by rw [k _ _ (by omega)]; exact h1, by rw [e132]; exact h2, by rw [e15, e132]; exact h3, by rw [e15]; exact h4, by rw [e18]; exact h5, fun r hr => ?_⟩, NmW_cg e9 e129 e130 w, NmD_cg e9 e129 e130 dd, by omega, n60, ok⟩
  obtain ⟨⟨⟨q1, q2, q3⟩, q4⟩, q5, q6, q7⟩ := h6 r hr
  refine ⟨⟨⟨by rw [e131]; exact q1, by rw [e131, e18]; exact q2, by rw [e131]; exact hA q3⟩, fun j hj => ?_⟩, by rw [e132, e132]; exact q5, by rw [e132]; exact q6, by rw [e132, e15]; exact q7⟩
  obtain ⟨z1, z2, z3, z4⟩ := q4 j hj
  rw [e132, e133, e134, e18]
  exact ⟨z1, z2, z3, hA z4⟩
/-- rule r as the reference holds it -/
theorem RV_rule {m : PM} {rs : List Rul} (h : RV m rs) {r : Nat} (hr : r < rs.length) : (0 ≤ m 131 r ∧ m 131 r < 540 ∧ AtR m (m 131 r) (rs.getD r ruD).1 false (m 125 22)) ∧ (0 ≤ m 132 r ∧ m 132 ((r : Int) + 1) = m 132 r + ((rs.getD r ruD).2.length : Int) ∧ m 132 ((r : Int) + 1) ≤ 480) ∧ ∀ j : Nat, j < (rs.getD r ruD).2.length → m 133 (m 132 r + j) = (((rs.getD r ruD).2.getD j (0, ([], []))).1 : Int) ∧ 0 ≤ m 134 (m 132 r + j) ∧ m 134 (m 132 r + j) < 540 ∧ AtR m (m 134 (m 132 r + j)) ((rs.getD r ruD).2.getD j (0, ([], []))).2 (decide (((rs.getD r ruD).2.getD j (0, ([], []))).1 = 3)) (m 125 22) := by
  obtain ⟨⟨h1, h2, h3, h4, h5, h6⟩, w, dd, b, n60, ok⟩ := h
  obtain ⟨⟨⟨q1, q2, q3⟩, q4⟩, q5, q6, q7⟩ := h6 r hr
  rw [show (r : Int) + 1 - 1 = r by omega] at q1 q2 q3
  refine ⟨⟨q1, by omega, q3⟩, ⟨q6, q5, by omega⟩, fun j hj => ?_⟩
  obtain ⟨z1, z2, z3, z4⟩ := q4 j hj
  exact ⟨z1, z2, by omega, z4⟩
theorem RV_n {m : PM} {rs : List Rul} (h : RV m rs) : m 125 12 = (rs.length : Int) ∧ rs.length ≤ 60 ∧ 10 ≤ m 125 9 ∧ m 125 9 ≤ 1010 ∧ m 125 22 ≤ 1000 := ⟨h.1.1, h.2.2.2.2.1, h.2.2.1.2.1, h.2.2.2.1.1, h.2.2.2.1.2.2⟩
theorem nX_wd {m : PM} {x : Int} {w : List Int} (hD : NmD m) (h : nX m x w) {j : Nat} (hj : j < 10) : x = (j : Int) ↔ w = wdL.getD j [] := by
  have z : nX m (j : Int) (wdL.getD j []) := ⟨by omega, by have := hD.2.1; omega, by rw [show ((j : Int).toNat) = j by omega]; exact hD.2.2 j hj⟩
  exact nX_inj hD h z
/-- the first fault of a kind among the rules before r -/
def FSt (k : Int) (P : Nat → Prop) (r : Nat) (m : PM) : Prop := (m 125 32 = 0 ∧ ∀ j, j < r → ¬ P j) ∨ (m 125 32 = k ∧ ∃ x : Nat, x < r ∧ m 125 33 = (x : Int) ∧ P x ∧ ∀ j, j < x → ¬ P j)
/-- how a check ends -/
def ChE (k : Int) (P : Nat → Prop) (n : Nat) (m : PM) : Prop := (lst P 0 n < n ∧ m 125 32 = k ∧ m 125 33 = (lst P 0 n : Int)) ∨ (¬ lst P 0 n < n ∧ m 125 32 = 0)
theorem FSt_end {k : Int} {P : Nat → Prop} {r n : Nat} {m : PM} (h : FSt k P r m) (hr : r ≤ n) (hf : r = n ∨ ¬ m 125 32 = 0) : ChE k P n m := by
  rcases h with ⟨h1, h2⟩ | ⟨h1, x, h2, h3, h4, h5⟩
  · have e : r = n := by
      rcases hf with q | q
      · exact q
      · exact absurd h1 q
    have z := lst_eq (P := P) (n := n) (x := n) (Nat.le_refl _) (fun j hj => h2 j (by omega)) (fun q => absurd q (Nat.lt_irrefl _))
    exact Or.inr ⟨by omega, h1⟩
  · have z := lst_eq (P := P) (n := n) (x := x) (by omega) h5 (fun _ => h4)
    exact Or.inl ⟨by omega, h1, by rw [z]; exact h3⟩
theorem FSt_no {k : Int} {P : Nat → Prop} {r : Nat} {m : PM} (h : FSt k P r m) (hp : ¬ P r) : FSt k P (r + 1) m := by
  rcases h with ⟨h1, h2⟩ | ⟨h1, x, h2, h3, h4, h5⟩
  · refine Or.inl ⟨h1, fun j hj => ?_⟩
    by_cases c : j = r
    · rw [c]; exact hp
    · exact h2 j (by omega)
  · exact Or.inr ⟨h1, x, by omega, h3, h4, h5⟩
theorem FSt_fail {k : Int} {P : Nat → Prop} {r : Nat} {m : PM} (hk : ¬ k = 0) (h : FSt k P r m) (hp : P r) : FSt k P (r + 1) (m_fail m k (r : Int)) := by
  unfold m_fail
  rcases h with ⟨h1, h2⟩ | ⟨h1, x, h2, h3, h4, h5⟩
  · rw [if_neg (not_not_intro h1)]
    exact Or.inr ⟨by rw [up_i (by decide), up_s], r, by omega, up_s _ _ _ _, hp, h2⟩
  · rw [if_pos (by omega)]
    exact Or.inr ⟨h1, x, by omega, h3, h4, h5⟩
theorem FSt_again {k : Int} {P : Nat → Prop} {r : Nat} {m : PM} (hk : ¬ k = 0) (h : FSt k P (r + 1) m) (hp : P r) : FSt k P (r + 1) (m_fail m k (r : Int)) := by
  unfold m_fail
  rcases h with ⟨h1, h2⟩ | ⟨h1, x, h2, h3, h4, h5⟩
  · exact absurd hp (h2 r (by omega))
  · rw [if_pos (by omega)]
    exact Or.inr ⟨h1, x, h2, h3, h4, h5⟩
theorem FSt_R {k : Int} {P : Nat → Prop} {r : Nat} {m : PM} (hk : 0 ≤ k ∧ k ≤ 7) (h : FSt k P r m) : iR (m 125 32) := by
  rcases h with ⟨h1, _⟩ | ⟨h1, _⟩
  · rw [h1]; decide
  · rw [h1]; unfold iR; omega
theorem FSt_cg {k : Int} {P : Nat → Prop} {r : Nat} {m m' : PM} (h : FSt k P r m) (e1 : m' 125 32 = m 125 32) (e2 : m' 125 33 = m 125 33) : FSt k P r m' := by
  unfold FSt
  rw [e1, e2]
  exact h
theorem fail_WKc {m m0 : PM} {k x : Int} (h : ∀ c j, ¬ WKc c j → m c j = m0 c j) : ∀ c j, ¬ WKc c j → m_fail m k x c j = m0 c j := fun c j q => by
  rw [k_fail (by omega) (by omega)]
  exact h c j q
/-- the number of terms of the relation of this number -/
def oc (x : Int) : Int := if x = 2 ∨ x = 3 ∨ x = 4 ∨ x = 7 then 1 else if x = 5 ∨ x = 6 ∨ x = 8 then 2 else if x = 9 then 0 else -1
theorem oc_own {m : PM} {x : Int} {w : List Int} (hD : NmD m) (h : nX m x w) : oc x = ownC w := by
  have q : ∀ j : Nat, j < 10 → (x = (j : Int) ↔ w = wdL.getD j []) := fun j hj => nX_wd hD h hj
  have q2 := q 2 (by decide)
  have q3 := q 3 (by decide)
  have q4 := q 4 (by decide)
  have q5 := q 5 (by decide)
  have q6 := q 6 (by decide)
  have q7 := q 7 (by decide)
  have q8 := q 8 (by decide)
  have q9 := q 9 (by decide)
  unfold oc ownC
  have i1 : (x = 2 ∨ x = 3 ∨ x = 4 ∨ x = 7) ↔ (w = wdL.getD 2 [] ∨ w = wdL.getD 3 [] ∨ w = wdL.getD 4 [] ∨ w = wdL.getD 7 []) := or_congr q2 (or_congr q3 (or_congr q4 q7))
  have i2 : (x = 5 ∨ x = 6 ∨ x = 8) ↔ (w = wdL.getD 5 [] ∨ w = wdL.getD 6 [] ∨ w = wdL.getD 8 []) := or_congr q5 (or_congr q6 q8)
  by_cases c1 : x = 2 ∨ x = 3 ∨ x = 4 ∨ x = 7
  · rw [if_pos c1, if_pos (i1.mp c1)]
  · rw [if_neg c1, if_neg (fun z => c1 (i1.mpr z))]
    by_cases c2 : x = 5 ∨ x = 6 ∨ x = 8
    · rw [if_pos c2, if_pos (i2.mp c2)]
    · rw [if_neg c2, if_neg (fun z => c2 (i2.mpr z))]
      by_cases c3 : x = 9
      · rw [if_pos c3, if_pos (q9.mp c3)]
      · rw [if_neg c3, if_neg (fun z => c3 (q9.mpr z))]
section RCT
variable {d : Nat} {μ : am_Mem} {l : PM}
theorem c_ownCount {M : am_Mem} {x : Int} (g : iR x) : Wp d 184 (0, [some (.int (zI x))], [], M) (pI (fun y μ' => y = zI (oc x) ∧ μ' = M) noX) := by
  refine b184_0 ⟨fun q => ?_, fun q => ?_⟩
  · rw [zI_toInt g] at q
    refine b184_54 ⟨?_, rfl⟩
    unfold oc
    rw [if_neg (by omega), if_neg (by omega), if_neg (by omega)]
    rfl
  · rw [zI_toInt g] at q ⊢
    have hx : x = 2 ∨ x = 3 ∨ x = 4 ∨ x = 5 ∨ x = 6 ∨ x = 7 ∨ x = 8 ∨ x = 9 := by omega
    rcases hx with rfl | rfl | rfl | rfl | rfl | rfl | rfl | rfl
    · exact ⟨47, 48, rfl, rfl, b184_48 ⟨rfl, rfl⟩⟩
    · exact ⟨47, 48, rfl, rfl, b184_48 ⟨rfl, rfl⟩⟩
    · exact ⟨47, 48, rfl, rfl, b184_48 ⟨rfl, rfl⟩⟩
    · exact ⟨49, 50, rfl, rfl, b184_50 ⟨rfl, rfl⟩⟩
    · exact ⟨49, 50, rfl, rfl, b184_50 ⟨rfl, rfl⟩⟩
    · exact ⟨47, 48, rfl, rfl, b184_48 ⟨rfl, rfl⟩⟩
    · exact ⟨49, 50, rfl, rfl, b184_50 ⟨rfl, rfl⟩⟩
    · exact ⟨51, 52, rfl, rfl, b184_52 ⟨rfl, rfl⟩⟩
theorem oc_R (x : Int) : -1 ≤ oc x ∧ oc x ≤ 2 := by
  unfold oc
  repeat' split
  all_goals omega
/-- the table of numbers of terms -/
def S148 (m : PM) : Prop := ∀ x, 0 ≤ x → x < m 125 9 → -1 ≤ m 148 x ∧ m 148 x ≤ 4
/-- the state of the check behind the atoms of S, at rule r -/
def CK (rs : List Rul) (r : Nat) (S : Atm → Prop) (m0 m : PM) : Prop := (∀ c j, ¬ WKc c j → m c j = m0 c j) ∧ RV m rs ∧ S148 m ∧ ((m 125 32 = 0 ∧ Cns S ∧ T2 (nX m) (m 148) S) ∨ (m 125 32 = 2 ∧ m 125 33 = (r : Int) ∧ Cns (upA rs r) ∧ Bad2 rs r))
theorem c_checkCount (H : RS μ) {m m0 : PM} {rs : List Rul} {r : Nat} {S : Atm → Prop} {a nd : Int} {at_ : Atm} (h : CK rs r S m0 m) (hA : AtR m a at_ false nd) (ha : 0 ≤ a ∧ a < 540) (hC : Cns (upA rs r)) (hS : ∀ b, S b ∨ b = at_ → upA rs (r + 1) b) : Wp (d + 1) 185 (0, [some (.ref 125), some (.int (zI a)), some (.int (zI (r : Int))), none], [], sA μ m l) (pV (fun μ' => ∃ m', μ' = sA μ m' l ∧ CK rs r (fun b => S b ∨ b = at_) m0 m') noX) := by
  obtain ⟨h1, h2, h3, h4⟩ := h
  obtain ⟨n1, n2, n3, n4, n5⟩ := RV_n h2
  have hx : nX m (m 135 a) at_.1 := hA.1
  have hD : NmD m := h2.2.2.1
  have hl := hA.2.1
  have hlen := hA.2.2.1
  have x0 := hx.1
  have x1 := hx.2.1
  have hs := h3 _ x0 x1
  have k : ∀ v : Int, ∀ c j, ¬ WKc c j → up m 148 (m 135 a) v c j = m c j := fun v c j q => up_o (by omega)
  refine R185_0 H ⟨by omega, by omega, by unfold iR; omega, fun v1 e1 => ⟨by rw [e1]; split <;> (unfold iR; omega), by unfold iR; omega, fun z => ?_, fun z => ?_⟩⟩
  · intro m2 e2
    have k2 : ∀ c j, ¬ WKc c j → m2 c j = m c j := fun c j q => by rw [e2]; exact k v1 c j q
    have e9 : m2 125 9 = m 125 9 := k2 _ _ (by omega)
    have hN : ∀ x w, nX m2 x w ↔ nX m x w := fun x w => ⟨fun q => nX_cg (k2 _ _ (by omega)).symm (fun i => (k2 _ _ (by omega)).symm) (fun i => (k2 _ _ (by omega)).symm) q, fun q => nX_cg (k2 _ _ (by omega)) (fun i => k2 _ _ (by omega)) (fun i => k2 _ _ (by omega)) q⟩
    have r1 : m2 148 (m 135 a) = v1 := by rw [e2, up_s]
    have r2 : ∀ y, ¬ y = m 135 a → m2 148 y = m 148 y := fun y q => by rw [e2, up_i q]
    refine ⟨m2, rfl, fun c j q => by rw [k2 c j q]; exact h1 c j q, RV_cg k2 h2, fun x a0 a1 => ?_, ?_⟩
    · by_cases c : x = m 135 a
      · rw [c, r1]; omega
      · rw [r2 x c]; exact h3 x a0 (by omega)
    · have e32 : m2 125 32 = m 125 32 := by rw [e2]; exact up_c (by decide)
      have e33 : m2 125 33 = m 125 33 := by rw [e2]; exact up_c (by decide)
      rw [e32, e33]
      rcases h4 with ⟨f0, fC, fT⟩ | f
      · have st := T2_step (N := nX m) (row' := m2 148) (fun x w w' q q' => nX_fun q q') (fun x y w q q' => nX_in2 hD q q') hx fT fC r2 (by rw [r1, e1, hlen])
        obtain ⟨s1, s2⟩ := st.1 (by rw [r1, z, hlen])
        exact Or.inl ⟨f0, s1, fun x w q => s2 x w ((hN x w).mp q)⟩
      · exact Or.inr f
  · intro m3 e3
    have k2 : ∀ c j, ¬ WKc c j → m3 c j = m c j := fun c j q => by rw [e3]; exact k v1 c j q
    have e32 : m3 125 32 = m 125 32 := by rw [e3]; exact up_c (by decide)
    have e33 : m3 125 33 = m 125 33 := by rw [e3]; exact up_c (by decide)
    have r1 : m3 148 (m 135 a) = v1 := by rw [e3, up_s]
    have r2 : ∀ y, ¬ y = m 135 a → m3 148 y = m 148 y := fun y q => by rw [e3, up_i q]
    refine ⟨?_, fun m4 e4 => ?_⟩
    · rw [e32]
      rcases h4 with f | f
      · rw [f.1]; decide
      · rw [f.1]; decide
    have k4 : ∀ c j, ¬ (c = 125 ∧ (j = 32 ∨ j = 33)) → m4 c j = m3 c j := fun c j q => by rw [e4]; exact k_fail (by omega) (by omega)
    have kk : ∀ c j, ¬ WKc c j → m4 c j = m c j := fun c j q => by rw [k4 c j (by omega)]; exact k2 c j q
    have ev : m 148 (m 135 a) = v1 := by
      rw [e1]
      by_cases c : 0 ≤ m 148 (m 135 a)
      · rw [if_pos c]
      · rw [if_neg c] at e1
        exact absurd e1 z
    refine ⟨m4, rfl, fun c j q => by rw [kk c j q]; exact h1 c j q, RV_cg kk h2, fun x a0 a1 => ?_, ?_⟩
    · rw [k4 _ _ (by omega)]
      rw [kk _ _ (by omega)] at a1
      by_cases c : x = m 135 a
      · rw [c, r1, ← ev]; exact hs
      · rw [r2 x c]; exact h3 x a0 a1
    · rw [e4]
      unfold m_fail
      rcases h4 with ⟨f0, fC, fT⟩ | f
      · have st := T2_step (N := nX m) (row' := m3 148) (fun x w w' q q' => nX_fun q q') (fun x y w q q' => nX_in2 hD q q') hx fT fC r2 (by rw [r1, e1, hlen])
        have bad := st.2 (by rw [r1, ← hlen]; exact z)
        rw [if_neg (by rw [e32, f0]; decide)]
        refine Or.inr ⟨by rw [up_i (by decide), up_s], up_s _ _ _ _, hC, fun q => bad (Cns_mono (fun b hb => hS b hb) q)⟩
      · rw [if_pos (by rw [e32, f.1]; decide)]
        exact Or.inr ⟨by rw [e32]; exact f.1, by rw [e33]; exact f.2.1, f.2.2⟩
theorem CK_iff {rs : List Rul} {r : Nat} {S S' : Atm → Prop} {m0 m : PM} (h : CK rs r S m0 m) (hS : ∀ b, S b ↔ S' b) : CK rs r S' m0 m := by
  have e : S = S' := funext fun b => propext (hS b)
  rw [← e]
  exact h
/-- the atoms before condition j of rule r -/
def Sj (rs : List Rul) (r j : Nat) (b : Atm) : Prop := upA rs r b ∨ b = (rs.getD r ruD).1 ∨ ∃ i, i < j ∧ ((rs.getD r ruD).2.getD i (0, ([], []))).1 < 3 ∧ ((rs.getD r ruD).2.getD i (0, ([], []))).2 = b
theorem Sj_up {rs : List Rul} {r j : Nat} {b : Atm} (hj : j ≤ (rs.getD r ruD).2.length) (h : Sj rs r j b) : upA rs (r + 1) b := by
  rcases h with ⟨q, h1, h2⟩ | h | ⟨i, h1, h2, h3⟩
  · exact ⟨q, by omega, h2⟩
  · exact ⟨r, by omega, Or.inl h⟩
  · exact ⟨r, by omega, Or.inr ⟨_, (mem_gD _ (0, ([], [])) _).mpr ⟨i, by omega, rfl⟩, h2, h3⟩⟩
theorem up_Sj {rs : List Rul} {r : Nat} {b : Atm} (h : upA rs (r + 1) b) : Sj rs r (rs.getD r ruD).2.length b := by
  obtain ⟨q, h1, h2⟩ := h
  by_cases c : q = r
  · rw [c] at h2
    rcases h2 with h2 | ⟨x, hx, h3, h4⟩
    · exact Or.inr (Or.inl h2)
    · obtain ⟨i, hi, e⟩ := (mem_gD _ (0, ([], [])) _).mp hx
      exact Or.inr (Or.inr ⟨i, hi, by rw [e]; exact h3, by rw [e]; exact h4⟩)
  · exact Or.inl ⟨q, by omega, h2⟩
/-- the conditions of rule r -/
theorem cc_61 (H : RS μ) {m0 : PM} {rs : List Rul} {r : Nat} {Q : Option Value ⊕ Nat → am_Mem → Prop} (hr : r < rs.length) (hC : Cns (upA rs r)) (hq : ∀ m, CK rs r (upA rs (r + 1)) m0 m → ∀ o : Int, Wp (d + 2) 183 (28, [some (.ref 125), some (.int (zI ((r : Int) + 1))), some (.int (zI o))], [], sA μ m l) Q) : ∀ (f j : Nat) (m : PM), j + f = (rs.getD r ruD).2.length → CK rs r (Sj rs r j) m0 m → Wp (d + 2) 183 (61, [some (.ref 125), some (.int (zI (r : Int))), some (.int (zI (m 132 r + (j : Int))))], [], sA μ m l) Q := by
  intro f
  induction f with
  | zero =>
    intro j m hf h
    obtain ⟨⟨a1, a2, a3⟩, ⟨b1, b2, b3⟩, c⟩ := RV_rule h.2.1 hr
    obtain ⟨n1, n2, n3, n4, n5⟩ := RV_n h.2.1
    refine R183_61 H ⟨by omega, by unfold iR; omega, by unfold iR; omega, fun _ => ?_, fun z => absurd (by omega) z⟩
    refine hq m (CK_iff h fun b => ?_) _
    have ej : j = (rs.getD r ruD).2.length := by omega
    rw [ej]
    exact ⟨fun z => Sj_up (Nat.le_refl _) z, up_Sj⟩
  | succ f ih =>
    intro j m hf h
    obtain ⟨⟨a1, a2, a3⟩, ⟨b1, b2, b3⟩, c⟩ := RV_rule h.2.1 hr
    obtain ⟨n1, n2, n3, n4, n5⟩ := RV_n h.2.1
    obtain ⟨z1, z2, z3, z4⟩ := c j (by omega)
    have okc := (OkS_at h.2.1.2.2.2.2.2 hr).2.2 _ ((mem_gD _ (0, ([], [])) _).mpr ⟨j, by omega, rfl⟩)
    have hs3 : ((rs.getD r ruD).2.getD j (0, ([], []))).1 ≤ 3 := by
      rcases okc.2 with q | q | q
      · omega
      · omega
      · have := q.1; omega
    refine R183_61 H ⟨by omega, by unfold iR; omega, by unfold iR; omega, fun z => absurd z (by omega), fun _ => ⟨by omega, by rw [z1]; unfold iR; omega, fun z => ?_, fun z => ?_⟩⟩
    · have e : m 132 r + (j : Int) + 1 = m 132 r + ((j + 1 : Nat) : Int) := by omega
      rw [e]
      refine ih (j + 1) m (by omega) (CK_iff h fun b => ⟨fun q => ?_, fun q => ?_⟩)
      · rcases q with q | q | ⟨i, i1, i2⟩
        · exact Or.inl q
        · exact Or.inr (Or.inl q)
        · exact Or.inr (Or.inr ⟨i, by omega, i2⟩)
      · rcases q with q | q | ⟨i, i1, i2, i3⟩
        · exact Or.inl q
        · exact Or.inr (Or.inl q)
        · by_cases ei : i = j
          · rw [ei] at i2; omega
          · exact Or.inr (Or.inr ⟨i, by omega, i2, i3⟩)
    · have z4' : AtR m (m 134 (m 132 r + j)) ((rs.getD r ruD).2.getD j (0, ([], []))).2 false (m 125 22) := by
        rw [decide_eq_false (by omega)] at z4
        exact z4
      refine ⟨_, noX, c_checkCount H h z4' ⟨z2, z3⟩ hC (fun b hb => ?_), fun μ' hp => ?_, fun _ _ z => z.elim⟩
      · rcases hb with hb | rfl
        · exact Sj_up (by omega) hb
        · exact Sj_up (j := j + 1) (by omega) (Or.inr (Or.inr ⟨j, by omega, by omega, rfl⟩))
      obtain ⟨m', rfl, h'⟩ := hp
      refine R183_94 H ?_
      have e132 : m' 132 r = m 132 r := by rw [h'.1 _ _ (by omega), h.1 _ _ (by omega)]
      have e : m 132 r + (j : Int) + 1 = m' 132 r + ((j + 1 : Nat) : Int) := by rw [e132]; omega
      rw [e]
      refine ih (j + 1) m' (by omega) (CK_iff h' fun b => ⟨fun q => ?_, fun q => ?_⟩)
      · rcases q with (q | q | ⟨i, i1, i2⟩) | q
        · exact Or.inl q
        · exact Or.inr (Or.inl q)
        · exact Or.inr (Or.inr ⟨i, by omega, i2⟩)
        · exact Or.inr (Or.inr ⟨j, by omega, by omega, q.symm⟩)
      · rcases q with q | q | ⟨i, i1, i2, i3⟩
        · exact Or.inl (Or.inl q)
        · exact Or.inl (Or.inr (Or.inl q))
        · by_cases ei : i = j
          · rw [ei] at i3; exact Or.inr i3.symm
          · exact Or.inl (Or.inr (Or.inr ⟨i, by omega, i2, i3⟩))
/-- the rules, one after another -/
theorem cc_28 (H : RS μ) {m0 : PM} {rs : List Rul} {Q : Option Value ⊕ Nat → am_Mem → Prop} (hq : ∀ m, (∀ c j, ¬ WKc c j → m c j = m0 c j) → ChE 2 (Bad2 rs) rs.length m → Q (.inl none) (sA μ m l)) : ∀ (f r : Nat) (m : PM) (o : Option Value), r + f = rs.length → (∀ c j, ¬ WKc c j → m c j = m0 c j) → RV m rs → S148 m → FSt 2 (Bad2 rs) r m → (m 125 32 = 0 → Cns (upA rs r) ∧ T2 (nX m) (m 148) (upA rs r)) → Wp (d + 2) 183 (28, [some (.ref 125), some (.int (zI (r : Int))), o], [], sA μ m l) Q := by
  intro f
  induction f with
  | zero =>
    intro r m o hf fr hv h148 hF hT
    obtain ⟨n1, n2, n3, n4, n5⟩ := RV_n hv
    exact R183_28 H ⟨by unfold iR; omega, by unfold iR; omega, fun _ => hq m fr (FSt_end hF (by omega) (Or.inl (by omega))), fun z => absurd (by omega) z⟩
  | succ f ih =>
    intro r m o hf fr hv h148 hF hT
    obtain ⟨n1, n2, n3, n4, n5⟩ := RV_n hv
    have hr : r < rs.length := by omega
    obtain ⟨⟨a1, a2, a3⟩, ⟨b1, b2, b3⟩, c⟩ := RV_rule hv hr
    refine R183_28 H ⟨by unfold iR; omega, by unfold iR; omega, fun z => absurd z (by omega), fun _ => ⟨FSt_R (by decide) hF, fun z => hq m fr (FSt_end hF (by omega) (Or.inr z)), fun z => ⟨by omega, ?_⟩⟩⟩
    have f0 : m 125 32 = 0 := Decidable.byContradiction z
    obtain ⟨hC, hT2⟩ := hT f0
    have hCK : CK rs r (upA rs r) m0 m := ⟨fr, hv, h148, Or.inl ⟨f0, hC, hT2⟩⟩
    refine ⟨_, noX, c_checkCount H hCK a3 ⟨a1, a2⟩ hC (fun b hb => ?_), fun μ' hp => ?_, fun _ _ z => z.elim⟩
    · rcases hb with ⟨q, q1, q2⟩ | rfl
      · exact ⟨q, by omega, q2⟩
      · exact ⟨r, by omega, Or.inl rfl⟩
    obtain ⟨m', rfl, h'⟩ := hp
    refine R183_54 H ⟨by omega, ?_⟩
    have e : m' 132 r = m' 132 r + ((0 : Nat) : Int) := by omega
    rw [e]
    refine cc_61 H hr hC (fun m2 h2 o2 => ?_) (rs.getD r ruD).2.length 0 m' (by omega) (CK_iff h' fun b => ⟨fun q => ?_, fun q => ?_⟩)
    · refine ih (r + 1) m2 _ (by omega) h2.1 h2.2.1 h2.2.2.1 ?_ (fun z0 => ?_)
      · rcases h2.2.2.2 with ⟨g0, gC, gT⟩ | ⟨g2, g3, g4, g5⟩
        · refine Or.inl ⟨g0, fun j hj hb => hb (Cns_mono (fun b hb => ?_) gC)⟩
          obtain ⟨q, q1, q2⟩ := hb
          exact ⟨q, by omega, q2⟩
        · refine Or.inr ⟨g2, r, by omega, g3, g5, fun j hj hb => hb (Cns_mono (fun b hb => ?_) g4)⟩
          obtain ⟨q, q1, q2⟩ := hb
          exact ⟨q, by omega, q2⟩
      · rcases h2.2.2.2 with ⟨g0, gC, gT⟩ | ⟨g2, _⟩
        · exact ⟨gC, gT⟩
        · omega
    · rcases q with q | q
      · exact Or.inl q
      · exact Or.inr (Or.inl q)
    · rcases q with q | q | ⟨i, i1, _⟩
      · exact Or.inl q
      · exact Or.inr q
      · omega
/-- the table as it begins -/
theorem cc_2 (H : RS μ) {m0 : PM} {rs : List Rul} {Q : Option Value ⊕ Nat → am_Mem → Prop} (hq : ∀ m, (∀ c j, ¬ WKc c j → m c j = m0 c j) → ChE 2 (Bad2 rs) rs.length m → Q (.inl none) (sA μ m l)) : ∀ (f : Nat) (k : Int) (m : PM), 0 ≤ k → k + f = m 125 9 → (∀ c j, ¬ WKc c j → m c j = m0 c j) → RV m rs → m 125 32 = 0 → (∀ x, 0 ≤ x → x < k → m 148 x = oc x) → Wp (d + 2) 183 (2, [some (.ref 125), some (.int (zI k)), none], [], sA μ m l) Q := by
  intro f
  induction f with
  | zero =>
    intro k m hk hf fr hv f0 hx
    obtain ⟨n1, n2, n3, n4, n5⟩ := RV_n hv
    have hnu : ∀ b, ¬ upA rs 0 b := fun b ⟨q, q1, _⟩ => absurd q1 (Nat.not_lt_zero q)
    refine R183_2 H ⟨by unfold iR; omega, by unfold iR; omega, fun _ => ?_, fun z => absurd (by omega) z⟩
    refine cc_28 H hq rs.length 0 m none (by omega) fr hv (fun x a b => ?_) (Or.inl ⟨f0, fun j hj => absurd hj (Nat.not_lt_zero j)⟩) (fun _ => ⟨fun b hb => absurd hb (hnu b), fun x w q => ?_⟩)
    · rw [hx x a (by omega)]
      have := oc_R x
      omega
    · have e := hx x q.1 (by have := q.2.1; omega)
      have e2 := oc_own hv.2.2.1 q
      refine ⟨fun _ => by omega, fun b hb => absurd hb (hnu b), fun z _ => ?_⟩
      rw [e, e2]
      unfold ownC at z ⊢
      repeat' split at z
      all_goals first | omega | (repeat' split) <;> first | rfl | omega | contradiction
  | succ f ih =>
    intro k m hk hf fr hv f0 hx
    obtain ⟨n1, n2, n3, n4, n5⟩ := RV_n hv
    refine R183_2 H ⟨by unfold iR; omega, by unfold iR; omega, fun z => absurd z (by omega), fun _ => ⟨_, noX, c_ownCount (by unfold iR; omega), fun y μ' hp => ?_, fun _ _ z => z.elim⟩⟩
    obtain ⟨rfl, rfl⟩ := hp
    refine R183_19 H ⟨by omega, fun m1 e1 => ?_⟩
    have k1 : ∀ c j, ¬ (c = 148 ∧ j = k) → m1 c j = m c j := fun c j q => by rw [e1]; exact up_o q
    refine ih (k + 1) m1 (by omega) (by rw [k1 _ _ (by omega)]; omega) (fun c j q => by rw [k1 c j (by omega)]; exact fr c j q) (RV_cg (fun c j q => k1 c j (by omega)) hv) (by rw [k1 _ _ (by omega)]; exact f0) (fun x a b => ?_)
    by_cases c : x = k
    · rw [c, e1, up_s]
    · rw [k1 _ _ (by omega)]; exact hx x a (by omega)
theorem c_checkCounts (H : RS μ) {m : PM} {rs : List Rul} (hv : RV m rs) (f0 : m 125 32 = 0) : Wp (d + 2) 183 (0, [some (.ref 125), none, none], [], sA μ m l) (pV (fun μ' => ∃ m', μ' = sA μ m' l ∧ (∀ c j, ¬ WKc c j → m' c j = m c j) ∧ ChE 2 (Bad2 rs) rs.length m') noX) := by
  obtain ⟨n1, n2, n3, n4, n5⟩ := RV_n hv
  refine R183_0 H ?_
  exact cc_2 H (fun m' fr hE => ⟨m', rfl, fr, hE⟩) (m 125 9).toNat 0 m (Int.le_refl _) (by omega) (fun _ _ _ => rfl) hv f0 (fun x a b => absurd b (by omega))
end RCT
