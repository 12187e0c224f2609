/-! ===== the reference's words ===== -/
/-- a word's letters, five bits each -/
def wl : Nat → Int → List Int
  | 0, _ => []
  | f + 1, y => if y ≤ 0 then [] else (96 + zLAnd y 31) :: wl f (zLShr y 5)
/-- they end within so many -/
def wok : Nat → Int → Bool
  | 0, y => decide (y ≤ 0)
  | f + 1, y => decide (y ≤ 0) || wok f (zLShr y 5)
/-- what a word must keep -/
abbrev WK (y : Int) : Prop := lR y ∧ wok 13 y = true ∧ (wl 13 y).length ≤ 16
theorem lR_x (x : Int64) : lR x.toInt := by
  have h1 := x.toInt_lt
  have h2 := x.le_toInt
  omega
section WRD
variable {d : Nat} {Q : Option Value ⊕ Nat → am_Mem → Prop} {μ : am_Mem} {l : PM}
theorem word_5 (H : RS μ) {y1 : Int} : ∀ (f : Nat) (y k : Int) (m : PM), lR y → wok f y = true → 0 ≤ m 125 9 ∧ m 125 9 ≤ 1098 → 0 ≤ k → k + ((wl f y).length : Int) ≤ 16 → Q (.inl none) (sA μ (up (up (upL m 129 (16 * m 125 9 + k) (wl f y)) 130 (m 125 9) (k + ((wl f y).length : Int))) 125 9 (m 125 9 + 1)) l) → Wp d 157 (5, [some (.ref 125), some (.long (zL y1)), none, some (.int (zI k)), some (.long (zL y)), none], [], sA μ m l) Q := by
  have hend : ∀ (y k : Int) (m : PM), lR y → y ≤ 0 → 0 ≤ m 125 9 ∧ m 125 9 ≤ 1098 → 0 ≤ k → Q (.inl none) (sA μ (up (up m 130 (m 125 9) k) 125 9 (m 125 9 + 1)) l) → Wp d 157 (5, [some (.ref 125), some (.long (zL y1)), none, some (.int (zI k)), some (.long (zL y)), none], [], sA μ m l) Q := by
    intro y k m hy h0 hN hk h
    refine R157_5 H ⟨hy, fun _ => ⟨by omega, ?_⟩, fun z => absurd h0 z⟩
    rintro m1 rfl
    exact h
  intro f
  induction f with
  | zero =>
    intro y k m hy hw hN hk hl h
    have e : k + ((wl 0 y).length : Int) = k := by show k + ((0 : Nat) : Int) = k; omega
    rw [e] at h
    exact hend y k m hy (of_decide_eq_true hw) hN hk h
  | succ f ih =>
    intro y k m hy hw hN hk hl h
    by_cases h0 : y ≤ 0
    · have e0 : wl (f + 1) y = [] := if_pos h0
      rw [e0] at h
      have e : k + (([] : List Int).length : Int) = k := by show k + ((0 : Nat) : Int) = k; omega
      rw [e] at h
      exact hend y k m hy h0 hN hk h
    · have e0 : wl (f + 1) y = (96 + zLAnd y 31) :: wl f (zLShr y 5) := if_neg h0
      have hw' : wok f (zLShr y 5) = true := by
        have : (decide (y ≤ 0) || wok f (zLShr y 5)) = true := hw
        rw [decide_eq_false h0, Bool.false_or] at this
        exact this
      have hlen : ((wl (f + 1) y).length : Int) = (wl f (zLShr y 5)).length + 1 := by rw [e0]; simp
      refine R157_5 H ⟨hy, fun z => absurd z h0, fun _ => ⟨by omega, ?_⟩⟩
      rintro m2 rfl
      have e9 : up m 129 (16 * m 125 9 + k) (96 + zLAnd y 31) 125 9 = m 125 9 := up_c (by decide)
      refine ih (zLShr y 5) (k + 1) (up m 129 (16 * m 125 9 + k) (96 + zLAnd y 31)) (lR_x _) hw' (by rw [e9]; exact hN) (by omega) (by omega) ?_
      rw [e9]
      rw [e0] at h
      have e1 : k + (((96 + zLAnd y 31) :: wl f (zLShr y 5)).length : Int) = k + 1 + ((wl f (zLShr y 5)).length : Int) := by simp; omega
      have e2 : 16 * m 125 9 + k + 1 = 16 * m 125 9 + (k + 1) := by omega
      rw [e1] at h
      have e3 : upL m 129 (16 * m 125 9 + k) ((96 + zLAnd y 31) :: wl f (zLShr y 5)) = upL (up m 129 (16 * m 125 9 + k) (96 + zLAnd y 31)) 129 (16 * m 125 9 + (k + 1)) (wl f (zLShr y 5)) := by
        rw [← e2]
        rfl
      rw [e3] at h
      exact h
theorem c_word (H : RS μ) {m : PM} {y1 : Int} (hw : WK y1) (hN : 0 ≤ m 125 9 ∧ m 125 9 ≤ 1098) : Wp d 157 (0, [some (.ref 125), some (.long (zL y1)), none, none, none, none], [], sA μ m l) (pV (fun μ' => μ' = sA μ (adN m (wl 13 y1)) l) noX) := by
  refine R157_0 H (word_5 H 13 y1 0 m hw.1 hw.2.1 hN (Int.le_refl _) (by have := hw.2.2; omega) ?_)
  show _ = _
  unfold adN
  have e1 : 16 * m 125 9 + 0 = 16 * m 125 9 := by omega
  have e2 : 0 + ((wl 13 y1).length : Int) = (wl 13 y1).length := by omega
  rw [e1, e2]
end WRD
/-- names put one behind the other -/
def fdN (m : PM) (ws : List (List Int)) : PM := ws.foldl adN m
theorem fdN_f : ∀ (ws : List (List Int)) (m : PM) (N : Nat), NmT m N → N + ws.length ≤ 1098 → (∀ w, w ∈ ws → w.length ≤ 16 ∧ ∀ j : Nat, j < w.length → iR (w.getD j 0)) → NmT (fdN m ws) (N + ws.length) ∧ (∀ k, k < N → nmR (fdN m ws) k = nmR m k) ∧ (∀ j, j < ws.length → nmR (fdN m ws) (N + j) = ws.getD j []) ∧ ∀ c i, ¬ (c = 129 ∨ c = 130 ∨ (c = 125 ∧ i = 9)) → fdN m ws c i = m c i := by
  intro ws
  induction ws with
  | nil =>
    intro m N h _ _
    exact ⟨h, fun _ _ => rfl, fun j hj => absurd hj (by simp), fun _ _ _ => rfl⟩
  | cons w ws ih =>
    intro m N h hl hw
    have hl' : (w :: ws).length = ws.length + 1 := rfl
    have h1 := adN_W h (hw w (by simp)).1 (hw w (by simp)).2 (by omega)
    obtain ⟨a1, a2, a3, a4⟩ := ih (adN m w) (N + 1) h1 (by omega) (fun v hv => hw v (by simp [hv]))
    have e : fdN m (w :: ws) = fdN (adN m w) ws := rfl
    rw [e]
    refine ⟨by rw [hl', show N + (ws.length + 1) = N + 1 + ws.length by omega]; exact a1, fun k hk => by rw [a2 k (by omega), adN_lt h hk], fun j hj => ?_, fun c i q => by rw [a4 c i q, k_adN (by omega) (by omega) (by omega)]⟩
    cases j with
    | zero =>
      show nmR (fdN (adN m w) ws) N = w
      rw [a2 N (by omega), adN_eq h.1]
    | succ j =>
      have := a3 j (by omega)
      rw [show N + (j + 1) = N + 1 + j by omega, this]
      rfl
