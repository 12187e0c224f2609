/-! ===== the class's parser: terms without parentheses ===== -/
/-- what a call that reads a term does -/
def TmQ (t : Int → Int) (n : Int) (X : Int → List Int → Prop) (J s : Nat) (m : PM) (f : Nat) (D : Int) (r : Rd (List Cd)) (x : Int) (m' : PM) : Prop :=
  (∀ c j, ¬ WC s (m s 6) D c j → m' c j = m c j) ∧ match r with
  | .inl e => x = -1 ∧ m' 62 2 = (e : Int) ∧ e ≤ J
  | .inr (cs, i', vs') => x = m s 6 + cs.length - 1 ∧ 1 ≤ cs.length ∧ CI t n X J s m' i' vs' ∧ m' s 6 = m s 6 + cs.length ∧ TcR X s f m' x cs
section CP7
variable {t : Int → Int} {n : Int} {X : Int → List Int → Prop} {J : Nat} {d : Nat} {Q : Option Value ⊕ Nat → am_Mem → Prop} {μ : am_Mem} {m l : PM} {s : Nat} {i : Nat} {vs : List (List Int)}
theorem ck4 (h : tK t n i = 4) : ckK (tK t n i) = 4 := by rw [h]; rfl
theorem nt_n (h : isN (tK t n i)) : nt t n (i + 1) = nt t n i + 1 := by
  show nt t n i + (if isN (tK t n i) then 1 else 0) = _
  rw [if_pos h]
/-- takeVariable at a variable -/
theorem tv_ci (H : CS μ) (hs : s = 22 ∨ s = 42) (hS : am_F μ 62 1 = s) (hX : XP X) (h : CI t n X J s m i vs) (hk : tK t n i = 4)
  (q2 : ¬ vrx vs (tW t n i) < vs.length → vs.length = 8 → Q (.inl (some (.int (zI (-1))))) (sA μ m l))
  (q1 : ∀ (m' : PM) (v : Nat) (vs' : List (List Int)), ((vrx vs (tW t n i) < vs.length ∧ v = vrx vs (tW t n i) ∧ vs' = vs) ∨ (¬ vrx vs (tW t n i) < vs.length ∧ ¬ vs.length = 8 ∧ v = vs.length ∧ vs' = vs ++ [tW t n i])) → v < 8 → CI t n X J s m' (i + 1) vs' → m' s 6 + 1 ≤ (nt t n (i + 1) : Int) → (∀ c j, ¬ ((c = 62 ∧ (j = 2 ∨ j = 4)) ∨ c = 63) → m' c j = m c j) → Q (.inl (some (.int (zI (v : Int))))) (sA μ m' l)) :
  Wp d 59 (0, [some (.ref 62), none, none, none], [], sA μ m l) Q := by
  have hlt := CI_lt h (by omega)
  have hN := nt_n (t := t) (n := n) (i := i) (Or.inr hk)
  obtain ⟨hT, h2, h3, h4, h5, h6, h7⟩ := id h
  have hJ := hT.1
  have hw := (hT.2.2.2 i h3).2.2 (Or.inr hk)
  rw [← h2] at hw
  have hx := hX.1 _ _ hw
  have ec := cvN_vrx hX h hw
  have c8 := h5.2.1
  refine k_takeVar (x := m 21 (m 62 2)) H hs hS (by omega) rfl (by unfold iR; omega) h5 (fun z => ?_) (fun z z8 => ?_) (fun z z8 => ?_)
  · rw [ec] at z ⊢
    have k : ∀ c j, ¬ (c = 62 ∧ j = 2) → up m 62 2 (m 62 2 + 1) c j = m c j := fun c j q => up_o (by omega)
    refine q1 _ _ vs (Or.inl ⟨by omega, rfl, rfl⟩) (by omega) ?_ ?_ (fun c j q => k c j (by omega))
    · refine ⟨TkE_cg (fun j => k _ _ (by omega)) (fun j => k _ _ (by omega)) (fun j => k _ _ (by omega)) hT, by rw [up_s]; omega, by omega, by rw [k _ _ (by omega)]; omega, ?_, by rw [k _ _ (by omega)]; exact h6, fun j hj => by rw [k _ _ (by omega)]; exact h7 j hj⟩
      unfold CV
      rw [k 62 4 (by omega), show up m 62 2 (m 62 2 + 1) 63 = m 63 from funext fun j => k _ _ (by omega)]
      exact h5
    · rw [k _ _ (by omega)]
      omega
  · exact q2 (by omega) (by omega)
  · rw [h6]
    have k : ∀ c j, ¬ ((c = 62 ∧ (j = 2 ∨ j = 4)) ∨ (c = 63 ∧ j = (vs.length : Int))) → up (up (up m 63 (vs.length : Int) (m 21 (m 62 2))) 62 4 ((vs.length : Int) + 1)) 62 2 (m 62 2 + 1) c j = m c j := fun c j q => by
      rw [up_o (by omega), up_o (by omega), up_o (by omega)]
    have k4 : up (up (up m 63 (vs.length : Int) (m 21 (m 62 2))) 62 4 ((vs.length : Int) + 1)) 62 2 (m 62 2 + 1) 62 4 = (vs.length : Int) + 1 := by
      rw [up_i (by decide), up_s]
    have k63 : up (up (up m 63 (vs.length : Int) (m 21 (m 62 2))) 62 4 ((vs.length : Int) + 1)) 62 2 (m 62 2 + 1) 63 (vs.length : Int) = m 21 (m 62 2) := by
      rw [up_c (by decide), up_c (by decide), up_s]
    have hl : (vs ++ [tW t n i]).length = vs.length + 1 := by simp
    refine q1 _ _ (vs ++ [tW t n i]) (Or.inr ⟨by omega, by omega, rfl, rfl⟩) (by omega) ?_ ?_ (fun c j q => k c j (by omega))
    · refine ⟨TkE_cg (fun j => k _ _ (by omega)) (fun j => k _ _ (by omega)) (fun j => k _ _ (by omega)) hT, by rw [up_s]; omega, by omega, by rw [k _ _ (by omega)]; omega, ?_, by rw [k4, hl]; omega, fun j hj => ?_⟩
      · exact CV_add (x := m 21 (m 62 2)) h5 (by unfold iR; omega) z8 (by omega) (by rw [k4, h6]) (by rw [h6]; exact k63) (fun j hj => k _ _ (by omega))
      · by_cases c : j = vs.length
        · rw [c, k63, List.getD_eq_getElem?_getD, List.getElem?_append_right (Nat.le_refl _)]
          simpa using hw
        · rw [k _ _ (by omega), List.getD_eq_getElem?_getD, List.getElem?_append_left (by omega), ← List.getD_eq_getElem?_getD]
          exact h7 j (by omega)
    · rw [k _ _ (by omega)]
      omega
end CP7
