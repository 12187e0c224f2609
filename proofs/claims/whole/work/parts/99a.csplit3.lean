/-! ===== the class's Names.clear and split, from their beginnings ===== -/
/-- what stays of an object of names -/
def CNm (m : PM) (a : Nat) : Prop := m (a + 3) 0 = 0 ∧ (∀ j, 0 ≤ m (a + 2) j ∧ m (a + 2) j ≤ 127) ∧ (∀ j : Nat, j < 58 → m (a + 1) j = cwL.getD j 0) ∧ ∀ j, 0 ≤ m (a + 1) j ∧ m (a + 1) j ≤ 127
section CP3
variable {d : Nat} {Q : Option Value ⊕ Nat → am_Mem → Prop} {μ : am_Mem} {m l : PM} {a : Nat}
theorem k_clear (H : CS μ) (ha : a = 23 ∨ a = 43) (hM : CNm m a) (hq : ∀ m' : PM, NcI m' a 10 → (∀ k, k < 10 → cn m' a k = cwW.getD k []) → m' (a + 3) 10 = 48 → (∀ x j, ¬ ((x = a ∧ j = 4) ∨ x = a + 2 ∨ x = a + 3 ∨ x = a + 4) → m' x j = m x j) → CNm m' a → Q (.inl none) (sA μ m' l)) : Wp (d + 3) 48 (0, [some (.ref a), none, none], [], sA μ m l) Q := by
  obtain ⟨h1, h2, h3, h4⟩ := hM
  refine K48_0 H ha ⟨fun μ' => μ' = sA μ (flM m (a + 4) 2048 0) l, noX, k_fill (n1 := 2048) (cKa4 H ha) (by omega), fun μ' hp => ?_, fun _ _ z => z.elim⟩
  rw [hp]
  refine K48_8 H ha ?_
  intro m1 e1
  have k : ∀ x j, ¬ ((x = a ∧ j = 4) ∨ x = a + 4) → m1 x j = m x j := by
    intro x j q
    rw [e1, up_o (by omega), flM_o (by omega)]
  have k4 : ∀ j, 0 ≤ j ∧ j < 2048 → m1 (a + 4) j = 0 := by
    intro j hj
    rw [e1, up_c (by omega), flM_i hj]
  have ka : m1 a 4 = 0 := by rw [e1, up_s]
  have hI : NcI m1 a 0 := by
    refine ⟨⟨ka, by decide, ?_, fun k hk => absurd hk (Nat.not_lt_zero k), ?_, fun j => ?_⟩, fun i hi => ?_, ?_⟩
    · rw [k _ _ (by omega), h1]
      decide
    · show m1 (a + 3) ((0 : Nat) : Int) ≤ 2058
      rw [k _ _ (by omega)]
      show m (a + 3) 0 ≤ 2058
      rw [h1]
      decide
    · rw [k _ _ (by omega)]
      exact h2 j
    · rw [k4 _ (by omega)]
      exact ⟨Int.le_refl _, Int.le_refl _⟩
    · refine HT_congr (h := fun k => (hsP (cn m1 a k)).toNat) (by decide) (fun i hi => ?_) (fun _ _ => rfl) (HT_0 2048 _)
      show 0 = (m1 (a + 4) i).toNat
      rw [k4 _ (by omega)]
      rfl
  refine clear_17 (l := l) (m0 := m) H ha (fun m' n1 n2 n3 n4 n5 => hq m' n1 n2 n3 n4 ⟨n5, n1.1.2.2.2.2.2, fun j hj => by rw [n4 _ _ (by omega)]; exact h3 j hj, fun j => by rw [n4 _ _ (by omega)]; exact h4 j⟩) 58 0 m1 rfl hI (fun k hk => absurd hk (Nat.not_lt_zero k)) ?_ (by rw [k _ _ (by omega)]; exact h1) (fun j hj => by rw [k _ _ (by omega)]; exact h3 j hj) (fun j => by rw [k _ _ (by omega)]; exact h4 j) (fun x j q => k x j (by omega))
  show m1 (a + 3) ((0 : Nat) : Int) = ((0 : Nat) : Int)
  rw [k _ _ (by omega)]
  exact h1
/-- split: all tokens of a text of n signs -/
theorem k_split (H : CS μ) (ha : a = 23 ∨ a = 43) {t : Int → Int} {n : Int} (hn : 0 ≤ n ∧ n ≤ 2000) (ht : m 17 = t) (hr : ∀ j, 0 ≤ t j ∧ t j ≤ 127) (hI : NcI m a 10) (hw : ∀ k, k < 10 → cn m a k = cwW.getD k []) (h48 : m (a + 3) 10 = 48) (hq : ∀ (m' : PM) (c J : Nat), SpE t n m' a c J → (∀ x j, ¬ SSp a x j → m' x j = m x j) → m' 18 5 = n → Q (.inl none) (sA μ m' l)) : Wp (d + 4) 104 (0, [some (.ref 18), some (.int (zI n)), some (.ref a), none, none, none], [], sA μ m l) Q := by
  refine K104_0 H ha ?_
  intro m1 e1
  have k : ∀ x j, ¬ (x = 18 ∧ (j = 3 ∨ j = 5)) → m1 x j = m x j := by
    intro x j q
    rw [e1, up_o (by omega), up_o (by omega)]
  have k5 : m1 18 5 = n := by rw [e1, up_i (by decide), up_s]
  have k3 : m1 18 3 = 0 := by rw [e1, up_s]
  have k17 : m1 17 = t := by rw [← ht]; exact funext fun j => k _ _ (by omega)
  have T : CX m1 := ⟨by rw [k5]; exact hn.1, by rw [k5]; exact hn.2, fun j => by rw [k17]; exact hr j⟩
  refine ⟨T, ⟨Int.le_refl _, by rw [k5]; exact hn.1⟩, ?_⟩
  intro v2 e2
  have ev : v2 = tkP t n 0 := by rw [e2, k17, k5]; rfl
  rw [ev]
  have e2' : m1 (a + 2) = m (a + 2) := funext fun x => k _ _ (by omega)
  have e3' : m1 (a + 3) = m (a + 3) := funext fun x => k _ _ (by omega)
  have e4' : m1 (a + 4) = m (a + 4) := funext fun x => k _ _ (by omega)
  have ea : m1 a 4 = m a 4 := k _ _ (by omega)
  have kcn : ∀ j, cn m1 a j = cn m a j := by
    intro j
    unfold cn
    rw [e2', e3']
  have hI1 : NcI m1 a 10 := by
    unfold NcI NcT at hI ⊢
    rw [e2', e3', e4', ea]
    refine ⟨hI.1, hI.2.1, ?_⟩
    have : (fun j => (hsP (cn m1 a j)).toNat) = fun j => (hsP (cn m a j)).toNat := funext fun j => by rw [kcn]
    rw [this]
    exact hI.2.2
  have hinj : ∀ j, j < 10 → ∀ k, k < 10 → cwW.getD j [] = cwW.getD k [] → j = k := by decide +kernel
  refine split_19 (l := l) (m0 := m) H ha hn hq n.toNat 0 10 m1 none ?_ ⟨⟨k17, k5, T⟩, ⟨hI1, fun j q hj hq' z => ?_, by omega, ?_⟩, k3, ?_, fun j hj => absurd hj (Nat.not_lt_zero j)⟩ (fun j hj => absurd hj (Nat.not_lt_zero j)) (fun x j q => k x j (by omega))
  · show n ≤ 0 + (n.toNat : Int)
    omega
  · rw [kcn, kcn, hw j hj, hw q hq'] at z
    exact hinj j hj q hq' z
  · show m1 (a + 3) ((10 : Nat) : Int) ≤ 48 + 0
    rw [e3']
    show m (a + 3) 10 ≤ 48 + 0
    rw [h48]
    decide
  · show ((0 : Nat) : Int) ≤ 0
    decide
end CP3
