/-! ===== the class's parser: a name ===== -/
section CP9
variable {t : Int → Int} {n : Int} {X : Int → List Int → Prop} {J : Nat} {d : Nat} {Q : Option Value ⊕ Nat → am_Mem → Prop} {μ : am_Mem} {m l : PM} {s : Nat} {i : Nat} {vs : List (List Int)}
theorem ck_all (t : Int → Int) (n : Int) (i : Nat) : (ckK (tK t n i) = 0 ↔ tK t n i = 1) ∧ (ckK (tK t n i) = 1 ↔ tK t n i = 2) ∧ (ckK (tK t n i) = 3 ↔ tK t n i = 3) ∧ (ckK (tK t n i) = 4 ↔ tK t n i = 4) ∧ iR (ckK (tK t n i)) := by
  rcases tK_k (t := t) (n := n) i with e | e | e | e | e | e | e
  all_goals rw [e]; decide
theorem nt_m (t : Int → Int) (n : Int) (i : Nat) : nt t n i ≤ nt t n (i + 1) := Nat.le_add_right _ _
theorem CI_adv (hs : s = 22 ∨ s = 42) (h : CI t n X J s m i vs) (hl : i < J) : CI t n X J s (up m 62 2 (m 62 2 + 1)) (i + 1) vs := by
  obtain ⟨hT, h2, h3, h4, h5, h6, h7⟩ := h
  have := nt_m t n i
  have k : ∀ c j, ¬ (c = 62 ∧ j = 2) → up m 62 2 (m 62 2 + 1) c j = m c j := fun c j q => up_o (by omega)
  refine ⟨TkE_cg (fun j => k _ _ (by omega)) (fun j => k _ _ (by omega)) (fun j => k _ _ (by omega)) hT, by rw [up_s]; omega, by omega, by rw [k _ _ (by omega)]; omega, ?_, by rw [k _ _ (by omega)]; exact h6, fun j hj => by rw [k _ _ (by omega)]; exact h7 j hj⟩
  unfold CV
  rw [k 62 4 (by omega), show up m 62 2 (m 62 2 + 1) 63 = m 63 from funext fun j => k _ _ (by omega)]
  exact h5
/-- a plain name: its number is not that of 'not' or 'distinct' -/
theorem pln_iff (hX : XP X) (h : CI t n X J s m i vs) : pln t n i ↔ (tK t n i = 3 ∧ ¬ m 21 (m 62 2) = 8 ∧ ¬ m 21 (m 62 2) = 9) := by
  obtain ⟨hT, h2, h3, _⟩ := h
  rw [h2]
  constructor
  · intro z
    have hw := (hT.2.2.2 i h3).2.2 (Or.inl z.1)
    refine ⟨z.1, fun e => z.2.1 ?_, fun e => z.2.2 ?_⟩
    · rw [e] at hw; exact hX.2.1 _ _ _ hw hX.2.2.2.1
    · rw [e] at hw; exact hX.2.1 _ _ _ hw hX.2.2.2.2
  · intro z
    have hw := (hT.2.2.2 i h3).2.2 (Or.inl z.1)
    refine ⟨z.1, fun e => z.2.1 ?_, fun e => z.2.2 ?_⟩
    · rw [e] at hw; exact hX.2.2.1 _ _ _ hw hX.2.2.2.1
    · rw [e] at hw; exact hX.2.2.1 _ _ _ hw hX.2.2.2.2
theorem tt_bad {x1 x2 x3 : Int} (H : CS μ) (hs : s = 22 ∨ s = 42) (hS : am_F μ 62 1 = s) (hX : XP X) (h : CI t n X J s m i vs) (hb : ¬ pln t n i) (hq : Q (.inl (some (.int (zI (-1))))) (sA μ m l)) :
  Wp (d + 1) 58 (78, [some (.ref 62), some (.int (zI x1)), some (.int (zI x2)), some (.int (zI x3)), none], [], sA μ m l) Q := by
  have hp' := pln_iff hX h
  obtain ⟨hT, h2, h3, _⟩ := id h
  have hJ := hT.1
  have hc := ck_all t n i
  have e19 : m 19 (m 62 2) = ckK (tK t n i) := by rw [h2]; exact (hT.2.2.2 i h3).1
  refine K58_78 H hs hS ⟨by omega, by rw [e19]; exact hc.2.2.2.2, fun _ => hq, fun z => ?_⟩
  have k3 : tK t n i = 3 := hc.2.2.1.mp (by rw [← e19]; exact Decidable.byContradiction z)
  have hw := hX.1 _ _ ((hT.2.2.2 i h3).2.2 (Or.inl k3))
  rw [← h2] at hw
  refine ⟨by omega, by unfold iR; omega, fun _ => hq, fun z8 => ⟨fun z9 => absurd (hp'.mpr ⟨k3, z8, z9⟩) hb, fun _ => hq⟩⟩
/-- takeTerm at a token that is neither a variable nor an opening parenthesis -/
theorem tt_name {f : Nat} {D x2 : Int} (H : CS μ) (hs : s = 22 ∨ s = 42) (hS : am_F μ 62 1 = s) (hX : XP X) (hn : 0 ≤ n ∧ n ≤ 2000) (h : CI t n X J s m i vs) (hk : ¬ tK t n i = 1) :
  Wp (d + 1) 58 (43, [some (.ref 62), some (.int (zI D)), some (.int (zI x2)), none, none], [], sA μ m l) (pI (TmP t n X J s μ l m (f + 1) (D + 1) (if pln t n i then .inr ([(0, tW t n i)], i + 1, vs) else .inl i)) noX) := by
  have hp' := pln_iff hX h
  obtain ⟨hT, h2, h3, h4, _⟩ := id h
  have hJ := hT.1
  have hc := ck_all t n i
  have e19 : m 19 (m 62 2) = ckK (tK t n i) := by rw [h2]; exact (hT.2.2.2 i h3).1
  have n0 : ¬ m 19 (m 62 2) = 0 := fun z => hk (hc.1.mp (by rw [← e19]; exact z))
  refine K58_43 H hs hS ⟨by omega, by rw [e19]; exact hc.2.2.2.2, fun v1 e1 => ?_⟩
  rw [if_pos n0] at e1
  rw [e1]
  refine ⟨fun _ => ?_, fun z => absurd rfl z⟩
  by_cases hb : pln t n i
  · rw [if_pos hb]
    obtain ⟨k3, n8, n9⟩ := hp'.mp hb
    have hw0 := (hT.2.2.2 i h3).2.2 (Or.inl k3)
    rw [← h2] at hw0
    have hw := hX.1 _ _ hw0
    have hlt := CI_lt h (by omega)
    have hN := nt_n (t := t) (n := n) (i := i) (Or.inl k3)
    refine K58_78 H hs hS ⟨by omega, by rw [e19]; exact hc.2.2.2.2, fun z => absurd (by rw [e19]; exact hc.2.2.1.mpr k3) z, fun _ => ⟨by omega, by unfold iR; omega, fun z => absurd z n8, fun _ => ⟨fun _ => ⟨by decide, fun _ m1 e2 => ?_, fun z => absurd rfl z⟩, fun z => absurd n9 z⟩⟩⟩
    rw [e2]
    refine ⟨_, noX, leaf_add (m := m) (f := f) (D := D + 1) (c0 := (0, tW t n i)) H hs hX hn (CI_adv hs h hlt) (by rw [up_o (by omega)]; omega) (fun c j q => up_o (by omega)) (Or.inr ⟨rfl, hw0⟩), fun y μ' hy => ?_, fun _ _ z => z.elim⟩
    obtain ⟨x', m', rfl, hx', rfl, hq⟩ := hy
    exact K58_179 H hs hS ⟨x', m', rfl, hx', rfl, hq⟩
  · rw [if_neg hb]
    exact tt_bad H hs hS hX h hb ⟨-1, _, rfl, by decide, rfl, fun _ _ _ => rfl, rfl, h2, h3⟩
end CP9
