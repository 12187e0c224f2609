/-! ===== the class's facts: the table, cut ===== -/
/-- how many of the first facts have a relation, and the last of them -/
def cnF (r : Int → Int) (x : Int) : Nat → Int
  | 0 => 0
  | f + 1 => cnF r x f + (if r f = x then 1 else 0)
def lsF (r : Int → Int) (x : Int) : Nat → Int
  | 0 => -1
  | f + 1 => if r f = x then (f : Int) else lsF r x f
theorem cnF_cg {r r' : Int → Int} {x : Int} : ∀ F : Nat, (∀ f : Nat, f < F → r f = r' f) → cnF r x F = cnF r' x F := by
  intro F
  induction F with
  | zero => intro _; rfl
  | succ F ih =>
    intro h
    show cnF r x F + _ = cnF r' x F + _
    rw [ih (fun f hf => h f (by omega)), h F (by omega)]
theorem lsF_cg {r r' : Int → Int} {x : Int} : ∀ F : Nat, (∀ f : Nat, f < F → r f = r' f) → lsF r x F = lsF r' x F := by
  intro F
  induction F with
  | zero => intro _; rfl
  | succ F ih =>
    intro h
    show (if r F = x then (F : Int) else lsF r x F) = if r' F = x then (F : Int) else lsF r' x F
    rw [ih (fun f hf => h f (by omega)), h F (by omega)]
theorem cnF_r (r : Int → Int) (x : Int) : ∀ F : Nat, 0 ≤ cnF r x F ∧ cnF r x F ≤ (F : Int) := by
  intro F
  induction F with
  | zero => exact ⟨Int.le_refl _, Int.le_refl _⟩
  | succ F ih =>
    show 0 ≤ cnF r x F + (if r F = x then 1 else 0) ∧ cnF r x F + (if r F = x then 1 else 0) ≤ ((F + 1 : Nat) : Int)
    split <;> omega
theorem lsF_r (r : Int → Int) (x : Int) : ∀ F : Nat, -1 ≤ lsF r x F ∧ lsF r x F < (F : Int) := by
  intro F
  induction F with
  | zero => exact ⟨Int.le_refl _, by show (-1 : Int) < 0; decide⟩
  | succ F ih =>
    show -1 ≤ (if r F = x then (F : Int) else lsF r x F) ∧ (if r F = x then (F : Int) else lsF r x F) < ((F + 1 : Nat) : Int)
    split <;> omega
/-- where an atom's way begins -/
def fcN (x : Int) (ps : List Int) : Int := ps.foldl (fun y p => (zXor y (zUsh y 15) + p) * (-2048144789)) (x * (-1640531535))
def spF (x : Int) (ps : List Int) : Int := zAnd (zXor (fcN x ps) (zUsh (fcN x ps) 13)) 4095
theorem fcN_snoc (x : Int) (ps : List Int) (p : Int) : fcN x (ps ++ [p]) = (zXor (fcN x ps) (zUsh (fcN x ps) 15) + p) * (-2048144789) := by simp [fcN]
/-- the table of the class's facts: F of them; W: how many terms a relation has -/
def FtI (W : Int → Nat) (m : PM) (F : Nat) : Prop := m 71 7 = (F : Int) ∧ F ≤ 1000 ∧ (∀ f : Nat, f < F → (0 ≤ m 72 f ∧ m 72 f < 1024) ∧ (0 ≤ m 75 f ∧ m 75 f < 4096) ∧ m 76 (m 75 f) = (f : Int) + 1 ∧ m 74 f = lsF (m 72) (m 72 f) f) ∧ (∀ r : Int, 0 ≤ r → r < 1024 → m 78 r = cnF (m 72) r F ∧ (0 < cnF (m 72) r F → m 77 r = lsF (m 72) r F)) ∧ (∀ i : Nat, i < 4096 → 0 ≤ m 76 i ∧ m 76 i ≤ (F : Int)) ∧ HC 4096 (fun i => (m 76 i).toNat) (fun f => (spF (m 72 f) (sl (m 73) (4 * (f : Int)) (W (m 72 f)))).toNat) F
section CF1
variable {d : Nat} {μ : am_Mem} {m l : PM} {Q : Option Value ⊕ Nat → am_Mem → Prop} {W : Int → Nat} {F : Nat}
theorem FtI_W {W' : Int → Nat} (h : FtI W m 0) : FtI W' m 0 := by
  obtain ⟨h1, h2, h3, h4, h5, h6⟩ := h
  exact ⟨h1, h2, h3, h4, h5, HC_cg (by decide) (fun _ _ => rfl) (fun k hk => absurd hk (Nat.not_lt_zero k)) h6⟩
theorem FtI_cut {m' : PM} (hI : FtI W m (F + 1)) (k : ∀ c j, ¬ ((c = 76 ∧ j = m 75 (F : Int)) ∨ ((c = 77 ∨ c = 78) ∧ j = m 72 (F : Int)) ∨ (c = 71 ∧ j = 7)) → m' c j = m c j) (e7 : m' 71 7 = (F : Int)) (e76 : m' 76 (m 75 (F : Int)) = 0) (e77 : m' 77 (m 72 (F : Int)) = m 74 (F : Int)) (e78 : m' 78 (m 72 (F : Int)) = m 78 (m 72 (F : Int)) - 1) : FtI W m' F := by
  obtain ⟨h1, h2, h3, h4, h5, h6⟩ := hI
  obtain ⟨b1, b2, b3, b4⟩ := h3 F (by omega)
  have f72 : m' 72 = m 72 := funext fun j => k _ _ (by omega)
  have f73 : m' 73 = m 73 := funext fun j => k _ _ (by omega)
  have f74 : ∀ j, m' 74 j = m 74 j := fun j => k _ _ (by omega)
  have f75 : ∀ j, m' 75 j = m 75 j := fun j => k _ _ (by omega)
  have k76 : ∀ j, ¬ j = m 75 (F : Int) → m' 76 j = m 76 j := fun j hj => k _ _ (by omega)
  refine ⟨e7, by omega, fun f hf => ?_, fun r r0 r1 => ?_, fun i hi => ?_, ?_⟩
  · obtain ⟨a1, a2, a3, a4⟩ := h3 f (by omega)
    rw [f72, f75, f74]
    refine ⟨a1, a2, ?_, a4⟩
    rw [k76 _ (fun w => by rw [w, b3] at a3; omega)]
    exact a3
  · obtain ⟨g1, g2⟩ := h4 r r0 r1
    have c1 : cnF (m 72) r (F + 1) = cnF (m 72) r F + (if m 72 F = r then 1 else 0) := rfl
    have c2 : lsF (m 72) r (F + 1) = if m 72 F = r then (F : Int) else lsF (m 72) r F := rfl
    rw [f72]
    by_cases z : r = m 72 (F : Int)
    · rw [if_pos z.symm] at c1
      rw [z] at g1 c1 ⊢
      rw [e77, e78, b4]
      exact ⟨by omega, fun _ => rfl⟩
    · rw [if_neg (fun w => z w.symm)] at c1 c2
      rw [k 78 r (by omega), k 77 r (by omega), g1, c1]
      refine ⟨by omega, fun w => ?_⟩
      rw [g2 (by omega), c2]
  · have := h5 i hi
    by_cases z : (i : Int) = m 75 (F : Int)
    · rw [z, e76]
      omega
    · rw [k76 _ z]
      have hne : ¬ m 76 (i : Int) = ((F + 1 : Nat) : Int) := fun w => by
        have := h6.2.2 i (m 75 (F : Int)).toNat hi (by omega) (by
          show (m 76 (i : Int)).toNat = (m 76 (((m 75 (F : Int)).toNat : Nat) : Int)).toNat
          rw [w, show (((m 75 (F : Int)).toNat : Nat) : Int) = m 75 (F : Int) by omega, b3]
          omega) (by
          show ¬ (m 76 (i : Int)).toNat = 0
          rw [w]
          omega)
        omega
      omega
  · refine HC_cg (by decide) (fun i hi => ?_) (fun j hj => ?_) (HC_cut (p := (m 75 (F : Int)).toNat) (by decide) h6 (by omega) ?_)
    · show (if i = (m 75 (F : Int)).toNat then 0 else (m 76 i).toNat) = (m' 76 i).toNat
      by_cases z : i = (m 75 (F : Int)).toNat
      · rw [if_pos z, show (i : Int) = m 75 (F : Int) by omega, e76]
        rfl
      · rw [if_neg z, k76 _ (by omega)]
    · show (spF (m 72 j) (sl (m 73) (4 * (j : Int)) (W (m 72 j)))).toNat = (spF (m' 72 j) (sl (m' 73) (4 * (j : Int)) (W (m' 72 j)))).toNat
      rw [f72, f73]
    · show (m 76 (((m 75 (F : Int)).toNat : Nat) : Int)).toNat = F + 1
      rw [show (((m 75 (F : Int)).toNat : Nat) : Int) = m 75 (F : Int) by omega, b3]
      omega
/-- what dropping facts writes -/
abbrev WFc (c : Nat) (j : Int) : Prop := c = 76 ∨ c = 77 ∨ c = 78 ∨ (c = 71 ∧ j = 7)
theorem k_fcut {m0 : PM} {M : Nat} (H : CS μ) (hI : FtI W m0 F) (hM : M ≤ F) : Wp d 28 (0, [some (.ref 71), some (.int (zI (M : Int))), none], [], sA μ m0 l) (pV (fun μ' => ∃ m', μ' = sA μ m' l ∧ FtI W m' M ∧ ∀ c j, ¬ WFc c j → m' c j = m0 c j) noX) := by
  have hF := hI.2.1
  have loop : ∀ (f : Nat) (m : PM), M + f ≤ F → FtI W m (M + f) → (∀ c j, ¬ WFc c j → m c j = m0 c j) → Wp d 28 (7, [some (.ref 71), some (.int (zI (M : Int))), some (.int (zI (((M + f : Nat) : Int) - 1)))], [], sA μ m l) (pV (fun μ' => ∃ m', μ' = sA μ m' l ∧ FtI W m' M ∧ ∀ c j, ¬ WFc c j → m' c j = m0 c j) noX) := by
    intro f
    induction f with
    | zero =>
      intro m hf hI g
      refine K28_7 H ⟨⟨by omega, by omega⟩, ⟨by omega, by omega⟩, fun _ => ⟨m, rfl, hI, g⟩, fun z => by omega⟩
    | succ f ih =>
      intro m hf hI g
      obtain ⟨b1, b2, b3, b4⟩ := hI.2.2.1 (M + f) (by omega)
      have et : (((M + (f + 1) : Nat) : Int) - 1) = ((M + f : Nat) : Int) := by omega
      rw [et]
      refine K28_7 H ⟨⟨by omega, by omega⟩, ⟨by omega, by omega⟩, fun z => by omega, fun _ => ⟨⟨by omega, by omega⟩, b2, ?_⟩⟩
      rintro m1 e1
      refine ⟨b1, ?_⟩
      rintro m2 e2 m3 e3
      have f3 : ∀ c j, ¬ ((c = 76 ∧ j = m 75 ((M + f : Nat) : Int)) ∨ ((c = 77 ∨ c = 78) ∧ j = m 72 ((M + f : Nat) : Int)) ∨ (c = 71 ∧ j = 7)) → m3 c j = m c j := fun c j z => by rw [e3, up_o (by omega), e2, up_o (by omega), up_o (by omega), e1, up_o (by omega)]
      have hI3 : FtI W m3 (M + f) := FtI_cut (show FtI W m (M + f + 1) from hI) f3 (by rw [e3, up_s]) (by rw [e3, up_c (by decide), e2, up_c (by decide), up_c (by decide), e1, up_s]) (by rw [e3, up_c (by decide), e2, up_c (by decide), up_s]) (by rw [e3, up_c (by decide), e2, up_s])
      exact ih m3 (by omega) hI3 (fun c j z => by rw [f3 c j (by omega)]; exact g c j z)
  refine K28_0 H ?_
  rw [hI.1]
  have z := loop (F - M) m0 (by omega) (by rw [show M + (F - M) = F by omega]; exact hI) (fun _ _ _ => rfl)
  rw [show M + (F - M) = F by omega] at z
  exact z
end CF1
