/-! ===== the class's parser: a leaf's node ===== -/
/-- the answer of a call that reads a term -/
abbrev TmP (t : Int → Int) (n : Int) (X : Int → List Int → Prop) (J s : Nat) (μ : am_Mem) (l m : PM) (f : Nat) (D : Int) (r : Rd (List Cd)) : Int32 → am_Mem → Prop := fun y μ' => ∃ (x : Int) (m' : PM), y = zI x ∧ iR x ∧ μ' = sA μ m' l ∧ TmQ t n X J s m f D r x m'
section CP8
variable {t : Int → Int} {n : Int} {X : Int → List Int → Prop} {J : Nat} {d : Nat} {Q : Option Value ⊕ Nat → am_Mem → Prop} {μ : am_Mem} {m l : PM} {s : Nat} {i : Nat} {vs : List (List Int)}
theorem leaf_add {m1 : PM} {i1 f : Nat} {vs1 : List (List Int)} {x1 D : Int} {c0 : Cd} (H : CS μ) (hs : s = 22 ∨ s = 42) (hX : XP X) (hn : 0 ≤ n ∧ n ≤ 2000) (hC : CI t n X J s m1 i1 vs1) (hr : m1 s 6 + 1 ≤ (nt t n i1 : Int)) (fr : ∀ c j, ¬ ((c = 62 ∧ (j = 2 ∨ j = 4)) ∨ c = 63) → m1 c j = m c j) (hc : (5 ≤ c0.1 ∧ c0.1 < 13 ∧ x1 = 4 - (c0.1 : Int)) ∨ (c0.1 = 0 ∧ X x1 c0.2)) :
  Wp d 66 (0, [some (.ref s), some (.int (zI x1)), some (.int (zI 0)), some (.ref 64), some (.int (zI 0)), none, none], [], sA μ m1 l) (pI (TmP t n X J s μ l m (f + 1) D (.inr ([c0], i1, vs1))) noX) := by
  obtain ⟨a, w⟩ := c0
  simp only at hc
  have hL := nt_le (t := t) hn i1
  obtain ⟨hT, h2, h3, h4, h5, h6, h7⟩ := id hC
  have e6 : m1 s 6 = m s 6 := fr _ _ (by omega)
  have hx : iR x1 := by
    rcases hc with c | c
    · unfold iR; omega
    · have := hX.1 _ _ c.2
      unfold iR; omega
  have hv : vmC [(a, w)] < 256 := by
    show (if 5 ≤ a then 2 ^ (a - 5) else 0) ||| 0 < 256
    rw [Nat.or_zero]
    split
    · have z : 2 ^ (a - 5) < 2 ^ 8 := Nat.pow_lt_pow_right (by decide) (by omega)
      exact z
    · decide
  have e0 : (if 0 ≤ x1 then (0 : Int) else zShl 1 ((-1) - x1)) = (vmC [(a, w)] : Int) := by
    show _ = (((if 5 ≤ a then 2 ^ (a - 5) else 0) ||| 0 : Nat) : Int)
    rw [Nat.or_zero]
    rcases hc with c | c
    · rw [if_neg (by omega), if_pos c.1, show (-1) - x1 = ((a - 5 : Nat) : Int) by omega]
      exact zShl_1 (by omega)
    · have := hX.1 _ _ c.2
      rw [if_pos (by omega), if_neg (by omega)]
      rfl
  refine k_addNode (x2 := 0) (v0 := vmC [(a, w)]) (V := fun _ => 0) (N := m1 s 6) H hs rfl (by omega) hx (by decide) (by decide) (fun i hi => absurd hi (Nat.not_lt_zero i)) hv e0 (fun i hi => absurd hi (Nat.not_lt_zero i)) ?_
  intro m' b1 b2 b3 b4 _ b6 b7
  have k : ∀ c j, ¬ SN s (m1 s 6) c j → m' c j = m1 c j := b7
  refine ⟨m1 s 6, m', rfl, by unfold iR; omega, rfl, fun c j q => ?_, ?_, Nat.le_refl 1, ?_, ?_, ?_⟩
  · rw [k c j (by omega)]
    exact fr c j (by omega)
  · show m1 s 6 = m s 6 + (1 : Nat) - 1
    omega
  · refine ⟨TkE_cg (fun j => k _ _ (by omega)) (fun j => k _ _ (by omega)) (fun j => k _ _ (by omega)) hT, by rw [k _ _ (by omega)]; exact h2, h3, by omega, ?_, by rw [k _ _ (by omega)]; exact h6, fun j hj => by rw [k _ _ (by omega)]; exact h7 j hj⟩
    unfold CV
    rw [k 62 4 (by omega), show m' 63 = m1 63 from funext fun j => k _ _ (by omega)]
    exact h5
  · show m' s 6 = m s 6 + (1 : Nat)
    omega
  · unfold TcR
    simp only
    rw [if_pos rfl] at b3
    refine ⟨b4, by rw [b3]; show m1 s 6 = m1 s 6 - ((0 : Nat) : Int); omega, ?_⟩
    rcases hc with c | c
    · rw [if_pos c.1]
      exact ⟨trivial, by rw [b1]; exact c.2.2, b2⟩
    · rw [if_neg (by omega)]
      exact ⟨[], c.1.symm, rfl, by rw [b1]; exact c.2, by rw [b2, c.1], trivial⟩
/-- takeTerm at a variable -/
theorem tt_var {f : Nat} {D : Int} {e : Rd (List Cd)} (H : CS μ) (hs : s = 22 ∨ s = 42) (hS : am_F μ 62 1 = s) (hX : XP X) (hn : 0 ≤ n ∧ n ≤ 2000) (h : CI t n X J s m i vs) (hk : tK t n i = 4) :
  Wp (d + 1) 58 (0, [some (.ref 62), some (.int (zI D)), some (.int (zI 0)), none, none], [], sA μ m l) (pI (TmP t n X J s μ l m (f + 1) (D + 1) (pT0 t n i vs e)) noX) := by
  obtain ⟨hT, h2, h3, h4, h5, h6, h7⟩ := id h
  have hJ := hT.1
  have e19 : m 19 (m 62 2) = 4 := by rw [h2, (hT.2.2.2 i h3).1]; exact ck4 hk
  have hp : 0 ≤ m 62 2 ∧ m 62 2 < 2001 := by omega
  refine K58_0 H hs hS ⟨hp, by rw [e19]; decide, fun z => absurd e19 z, fun _ => ⟨by decide, fun z => absurd rfl z, fun _ => ?_⟩⟩
  refine ⟨fun y μ' => ∃ (x : Int) (m1 : PM), y = zI x ∧ iR x ∧ μ' = sA μ m1 l ∧ ((x = -1 ∧ m1 = m ∧ ¬ vrx vs (tW t n i) < vs.length ∧ vs.length = 8) ∨ ∃ (v : Nat) (vs' : List (List Int)), x = (v : Int) ∧ v < 8 ∧ ((vrx vs (tW t n i) < vs.length ∧ v = vrx vs (tW t n i) ∧ vs' = vs) ∨ (¬ vrx vs (tW t n i) < vs.length ∧ ¬ vs.length = 8 ∧ v = vs.length ∧ vs' = vs ++ [tW t n i])) ∧ CI t n X J s m1 (i + 1) vs' ∧ m1 s 6 + 1 ≤ (nt t n (i + 1) : Int) ∧ ∀ c j, ¬ ((c = 62 ∧ (j = 2 ∨ j = 4)) ∨ c = 63) → m1 c j = m c j), noX, ?_, fun y μ' hy => ?_, fun _ _ z => z.elim⟩
  · exact tv_ci H hs hS hX h hk (fun a b => ⟨-1, m, rfl, by decide, rfl, Or.inl ⟨rfl, rfl, a, b⟩⟩) (fun m' v vs' a b c d' g => ⟨v, m', rfl, by unfold iR; omega, rfl, Or.inr ⟨v, vs', rfl, b, a, c, d', g⟩⟩)
  obtain ⟨x, m1, rfl, hx, rfl, hh⟩ := hy
  refine K58_16 H hs hS ⟨hx, fun ne => ?_, fun ne => ?_⟩
  · rcases hh with hh | ⟨v, vs', e1, v8, hv, hC, hr, fr⟩
    · exact absurd hh.1 ne
    have er : pT0 t n i vs e = .inr ([(5 + v, [])], i + 1, vs') := by
      unfold pT0
      rw [if_pos hk]
      rcases hv with ⟨w1, w2, w3⟩ | ⟨w1, w2, w3, w4⟩
      · rw [if_pos w1, w2, w3]
      · rw [if_neg w1, if_neg w2, w3, w4]
    rw [er]
    refine ⟨_, noX, leaf_add (f := f) (D := D + 1) (c0 := (5 + v, [])) H hs hX hn hC hr fr (Or.inl ⟨by show 5 ≤ 5 + v; omega, by show 5 + v < 13; omega, by show (-1) - x = 4 - ((5 + v : Nat) : Int); omega⟩), fun y μ' hy => ?_, fun _ _ z => z.elim⟩
    obtain ⟨x', m', rfl, hx', rfl, hq⟩ := hy
    exact K58_42 H hs hS ⟨x', m', rfl, hx', rfl, hq⟩
  · have ex : x = -1 := Decidable.byContradiction ne
    rcases hh with ⟨_, rfl, w1, w2⟩ | ⟨v, vs', e1, _⟩
    · have er : pT0 t n i vs e = .inl i := by
        unfold pT0
        rw [if_pos hk, if_neg w1, if_pos w2]
      rw [er]
      exact ⟨-1, _, rfl, by decide, rfl, fun _ _ _ => rfl, rfl, h2, h3⟩
    · omega
end CP8
