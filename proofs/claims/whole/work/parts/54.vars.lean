/-! ===== the reference's variableOf ===== -/
/-- the first place from k on, f places looked at, where x stands -/
def rix (r : Int → Int) (x : Int) : Nat → Nat → Nat
  | 0, k => k
  | f + 1, k => if r k = x then k else rix r x f (k + 1)
theorem rix_le (r : Int → Int) (x : Int) : ∀ f k, k ≤ rix r x f k ∧ rix r x f k ≤ k + f := by
  intro f
  induction f with
  | zero => intro k; exact ⟨Nat.le_refl _, Nat.le_refl _⟩
  | succ f ih =>
    intro k
    have := ih (k + 1)
    unfold rix
    split
    all_goals omega
theorem rix_is (r : Int → Int) (x : Int) : ∀ f k, rix r x f k < k + f → r (rix r x f k) = x := by
  intro f
  induction f with
  | zero => intro k h; exact absurd h (by unfold rix; omega)
  | succ f ih =>
    intro k h
    unfold rix at h ⊢
    split
    · assumption
    · rename_i q
      rw [if_neg q] at h
      exact ih (k + 1) (by omega)
theorem rix_no (r : Int → Int) (x : Int) : ∀ f k, ∀ j : Nat, k ≤ j → j < rix r x f k → ¬ r j = x := by
  intro f
  induction f with
  | zero => intro k j h1 h2; exact absurd h2 (by unfold rix; omega)
  | succ f ih =>
    intro k j h1 h2
    unfold rix at h2
    split at h2
    · omega
    · by_cases e : j = k
      · rw [e]; assumption
      · exact ih (k + 1) j (by omega) h2
/-- the table of variables -/
def VrT (m : PM) : Prop := 0 ≤ m 125 38 ∧ m 125 38 ≤ 8 ∧ (∀ i, 0 ≤ i → i < m 125 38 → iR (m 146 i)) ∧ iR (m 125 32)
def vrN (m : PM) (x : Int) : Nat := rix (m 146) x (m 125 38).toNat 0
def vrI (m : PM) (x : Int) : Int := if (vrN m x : Int) < m 125 38 then (vrN m x : Int) else if m 125 38 = 8 then 0 else m 125 38
noncomputable def vrM (m : PM) (x : Int) : PM := if (vrN m x : Int) < m 125 38 then m else if m 125 38 = 8 then m_fail m 1 (m 125 29) else up (up m 146 (m 125 38) x) 125 38 (m 125 38 + 1)
theorem vrI_r {m : PM} (h : VrT m) (x : Int) : 0 ≤ vrI m x ∧ vrI m x < 8 := by
  obtain ⟨h1, h2, _⟩ := h
  have := rix_le (m 146) x (m 125 38).toNat 0
  unfold vrI vrN
  repeat' split
  all_goals omega
theorem vrI_R {m : PM} (h : VrT m) (x : Int) : iR (vrI m x) := by
  have := vrI_r h x
  omega
section VRO
variable {d : Nat} {Q : Option Value ⊕ Nat → am_Mem → Prop} {μ : am_Mem} {m l : PM} {x : Int}
theorem variableOf_2 (H : RS μ) (h : VrT m) (hx : iR x) (hq : Q (.inl (some (.int (zI (vrI m x))))) (sA μ (vrM m x) l)) : ∀ (r k : Nat), (k : Int) + r = m 125 38 → vrN m x = rix (m 146) x r k → Wp (d + 1) 179 (2, [some (.ref 125), some (.int (zI x)), some (.int (zI k))], [], sA μ m l) Q := by
  obtain ⟨h1, h2, h3, h4⟩ := h
  intro r
  induction r with
  | zero =>
    intro k hk hi
    have e : (vrN m x : Int) = m 125 38 := by rw [hi]; show (k : Int) = _; omega
    refine R179_2 H ⟨by omega, by omega, fun _ => ⟨fun z => ⟨by omega, ?_⟩, fun z => ⟨h4, ?_⟩⟩, fun z => absurd (by omega) z⟩
    · rintro m1 rfl
      have e1 : vrI m x = m 125 38 := by unfold vrI; rw [if_neg (by omega), if_neg z]
      have e2 : vrM m x = up (up m 146 (m 125 38) x) 125 38 (m 125 38 + 1) := by unfold vrM; rw [if_neg (by omega), if_neg z]
      rw [e1, e2] at hq
      have e3 : m 125 38 + 1 - 1 = m 125 38 := by omega
      rw [e3]
      exact hq
    · rintro m2 rfl
      have z' : m 125 38 = 8 := Classical.not_not.mp z
      have e1 : vrI m x = 0 := by unfold vrI; rw [if_neg (by omega), if_pos z']
      have e2 : vrM m x = m_fail m 1 (m 125 29) := by unfold vrM; rw [if_neg (by omega), if_pos z']
      rw [e1, e2] at hq
      exact hq
  | succ r ih =>
    intro k hk hi
    have h5 := h3 k (by omega) (by omega)
    refine R179_2 H ⟨by omega, by omega, fun z => absurd z (by omega), fun _ => ⟨by omega, h5, hx, fun z => ?_, fun z => ?_⟩⟩
    · have e : ((k : Int) + 1) = ((k + 1 : Nat) : Int) := by omega
      rw [e]
      refine ih (k + 1) (by omega) ?_
      rw [hi]
      show (if m 146 k = x then k else rix (m 146) x r (k + 1)) = _
      rw [if_neg z]
    · have z' : m 146 k = x := Classical.not_not.mp z
      have e0 : vrN m x = k := by
        rw [hi]
        show (if m 146 k = x then k else rix (m 146) x r (k + 1)) = _
        rw [if_pos z']
      have e1 : vrI m x = k := by unfold vrI; rw [e0, if_pos (by omega)]
      have e2 : vrM m x = m := by unfold vrM; rw [e0, if_pos (by omega)]
      rw [e1, e2] at hq
      exact hq
theorem c_variableOf (H : RS μ) (h : VrT m) (hx : iR x) : Wp (d + 1) 179 (0, [some (.ref 125), some (.int (zI x)), none], [], sA μ m l) (pI (fun y μ' => y = zI (vrI m x) ∧ μ' = sA μ (vrM m x) l) noX) :=
  R179_0 H (variableOf_2 H h hx ⟨rfl, rfl⟩ (m 125 38).toNat 0 (by have := h.1; omega) rfl)
end VRO
theorem k_vrM {m : PM} {x : Int} {c : Nat} {i : Int} (h0 : ¬ c = 146) (p0 : ¬ (c = 125 ∧ i = 32)) (p1 : ¬ (c = 125 ∧ i = 33)) (p2 : ¬ (c = 125 ∧ i = 38)) : vrM m x c i = m c i := by
  unfold vrM
  split
  · rfl
  · split
    · exact k_fail p0 p1
    · rw [up_o p2, up_c h0]
theorem k_adN {m : PM} {w : List Int} {c : Nat} {i : Int} (h0 : ¬ c = 129) (h1 : ¬ c = 130) (p0 : ¬ (c = 125 ∧ i = 9)) : adN m w c i = m c i := by
  unfold adN
  rw [up_o p0, up_c h1, upL_o _ _ _ (Or.inl h0)]
theorem k_nmM {m : PM} {a b : Int} {c : Nat} {i : Int} (h0 : ¬ c = 129) (h1 : ¬ c = 130) (p0 : ¬ (c = 125 ∧ i = 9)) : nmM m a b c i = m c i := by
  unfold nmM
  split
  · rfl
  · exact k_adN h0 h1 p0
theorem nmI_R {m : PM} (hN : NmT m (m 125 9).toNat) (a b : Int) : iR (nmI m a b) := by
  have h := hN.2.1
  have hle := nix_le (nmR m) (sl (m 128) a (b - a).toNat) (m 125 9).toNat 0
  unfold nmI
  omega
/-- what a name's place must keep -/
abbrev gN (a b : Int) : Prop := 0 ≤ a ∧ a ≤ b ∧ b ≤ a + 16 ∧ b ≤ 2000
def NmW (m : PM) : Prop := NmT m (m 125 9).toNat
theorem NmW_cg {m m' : PM} (h1 : m' 125 9 = m 125 9) (h2 : ∀ i, m' 129 i = m 129 i) (h3 : ∀ i, m' 130 i = m 130 i) (T : NmW m) : NmW m' := by
  unfold NmW NmT at *
  rw [h1]
  refine ⟨T.1, T.2.1, fun k hk => ?_⟩
  rw [h3 k]
  refine ⟨(T.2.2 k hk).1, (T.2.2 k hk).2.1, fun j hj => ?_⟩
  rw [h2]
  exact (T.2.2 k hk).2.2 j hj
theorem VrT_cg {m m' : PM} (h1 : m' 125 32 = m 125 32) (h2 : m' 125 38 = m 125 38) (h3 : ∀ i, m' 146 i = m 146 i) (T : VrT m) : VrT m' := by
  unfold VrT at *
  rw [h1, h2]
  exact ⟨T.1, T.2.1, fun i a b => by rw [h3]; exact T.2.2.1 i a b, T.2.2.2⟩
