/-! ===== the class's rules: conditions in their rows ===== -/
def psC (cs : List (Nat × Atm)) : List (Nat × Atm) := cs.filter (fun c => c.1 == 1)
def otC (cs : List (Nat × Atm)) : List (Nat × Atm) := cs.filter (fun c => !(c.1 == 1))
theorem psC_1 (acc : List (Nat × Atm)) (a : Atm) : psC (acc ++ [(1, a)]) = psC acc ++ [(1, a)] := by
  unfold psC
  rw [List.filter_append]
  rfl
theorem otC_1 (acc : List (Nat × Atm)) (a : Atm) : otC (acc ++ [(1, a)]) = otC acc := by
  unfold otC
  rw [List.filter_append]
  exact List.append_nil _
theorem psC_o {b : Nat} (h : ¬ b = 1) (acc : List (Nat × Atm)) (a : Atm) : psC (acc ++ [(b, a)]) = psC acc := by
  unfold psC
  rw [List.filter_append]
  simp [h]
theorem otC_o {b : Nat} (h : ¬ b = 1) (acc : List (Nat × Atm)) (a : Atm) : otC (acc ++ [(b, a)]) = otC acc ++ [(b, a)] := by
  unfold otC
  rw [List.filter_append]
  simp [h]
theorem psot_len (cs : List (Nat × Atm)) : (psC cs).length + (otC cs).length = cs.length := by
  induction cs with
  | nil => rfl
  | cons c cs ih =>
    unfold psC otC at ih ⊢
    by_cases h : c.1 = 1
    · simp [h]
      omega
    · simp [h]
      omega
theorem getD_l {α : Type} (L : List α) (a e : α) {j : Nat} (h : j < L.length) : (L ++ [a]).getD j e = L.getD j e := by
  rw [List.getD_eq_getElem?_getD, List.getElem?_append_left h, ← List.getD_eq_getElem?_getD]
theorem getD_r {α : Type} (L : List α) (a e : α) : (L ++ [a]).getD L.length e = a := by
  rw [List.getD_eq_getElem?_getD, List.getElem?_append_right (Nat.le_refl _)]
  simp
/-- node k, below N, is this condition's -/
def AtC (X : Int → List Int → Prop) (s : Nat) (m : PM) (N k : Int) (c : Nat × Atm) : Prop := k < N ∧ 0 ≤ k - (c.2.2.flatten.length : Int) ∧ NdC X s 11 m k (fun x => if c.1 = 3 then x = 9 else X x c.2.1) c.2.2
theorem AtC_cg {X : Int → List Int → Prop} {s : Nat} {m m' : PM} {N N' k : Int} {c : Nat × Atm} (hN : N ≤ N') (h1 : ∀ i, i < N → m' (s + 6) i = m (s + 6) i ∧ m' (s + 7) i = m (s + 7) i ∧ m' (s + 9) i = m (s + 9) i ∧ m' (s + 10) i = m (s + 10) i) (h2 : ∀ i, i < 4 * N → m' (s + 8) i = m (s + 8) i) (h : AtC X s m N k c) : AtC X s m' N' k c := by
  obtain ⟨a1, a2, b1, b2, b3, b4, b5, b6⟩ := h
  obtain ⟨c1, c2, c3, c4⟩ := h1 k a1
  refine ⟨by omega, a2, by rw [c1]; exact b1, by rw [c2]; exact b2, by rw [c4]; exact b3, by rw [c3]; exact b4, b5, ?_⟩
  exact PcR_fr (fun i hi => h2 _ (by omega)) (fun i _ hi => h1 i (by omega)) (fun i _ hi => h2 i (by omega)) b6
/-- the nodes of conditions in a row -/
def LsC (X : Int → List Int → Prop) (s : Nat) (m : PM) (N : Int) (ct : Nat) (w : Int) (L : List (Nat × Atm)) : Prop := ∀ j : Nat, j < L.length → AtC X s m N (m ct (w + j)) (L.getD j (0, ([], [])))
/-- rule r of the class's sheet -/
def RuI (X : Int → List Int → Prop) (s : Nat) (m : PM) (r : Int) (h : Atm) (cs : List (Nat × Atm)) : Prop := AtC X s m (m s 6) (m (s + 11) r) (1, h) ∧ (m (s + 13) r = ((psC cs).length : Int) ∧ LsC X s m (m s 6) (s + 12) (8 * r) (psC cs)) ∧ (m (s + 16) r = ((otC cs).length : Int) ∧ LsC X s m (m s 6) (s + 15) (8 * r) (otC cs)) ∧ cs.length ≤ 8
theorem RuI_cg {X : Int → List Int → Prop} {s : Nat} {m m' : PM} {r : Int} {h0 : Atm} {cs : List (Nat × Atm)} (hN : m s 6 ≤ m' s 6) (h1 : ∀ i, i < m s 6 → m' (s + 6) i = m (s + 6) i ∧ m' (s + 7) i = m (s + 7) i ∧ m' (s + 9) i = m (s + 9) i ∧ m' (s + 10) i = m (s + 10) i) (h2 : ∀ i, i < 4 * m s 6 → m' (s + 8) i = m (s + 8) i) (e1 : m' (s + 11) r = m (s + 11) r) (e3 : m' (s + 13) r = m (s + 13) r) (e6 : m' (s + 16) r = m (s + 16) r) (e2 : ∀ j : Nat, j < 8 → m' (s + 12) (8 * r + j) = m (s + 12) (8 * r + j)) (e5 : ∀ j : Nat, j < 8 → m' (s + 15) (8 * r + j) = m (s + 15) (8 * r + j)) (h : RuI X s m r h0 cs) : RuI X s m' r h0 cs := by
  obtain ⟨a1, ⟨a2, a3⟩, ⟨a4, a5⟩, a6⟩ := h
  have hl := psot_len cs
  refine ⟨by rw [e1]; exact AtC_cg hN h1 h2 a1, ⟨by rw [e3]; exact a2, fun j hj => ?_⟩, ⟨by rw [e6]; exact a4, fun j hj => ?_⟩, a6⟩
  · rw [e2 j (by omega)]; exact AtC_cg hN h1 h2 (a3 j hj)
  · rw [e5 j (by omega)]; exact AtC_cg hN h1 h2 (a5 j hj)
/-- a positive condition more -/
theorem RuI_pos {X : Int → List Int → Prop} {s : Nat} {m m' : PM} {r x : Int} {h0 a : Atm} {acc : List (Nat × Atm)} (hs : s = 22 ∨ s = 42) (hacc : acc.length < 8) (hR : RuI X s m r h0 acc) (hA : AtC X s m (m s 6) x (1, a)) (em : m' = up (up m (s + 12) (8 * r + m (s + 13) r) x) (s + 13) r (m (s + 13) r + 1)) : RuI X s m' r h0 (acc ++ [(1, a)]) := by
  obtain ⟨a1, ⟨a2, a3⟩, ⟨a4, a5⟩, a6⟩ := hR
  have hl := psot_len acc
  have k : ∀ c j, ¬ ((c = s + 12 ∧ j = 8 * r + ((psC acc).length : Int)) ∨ (c = s + 13 ∧ j = r)) → m' c j = m c j := by
    intro c j q
    rw [em, a2, up_o (by omega), up_o (by omega)]
  have h1 : ∀ i, i < m s 6 → m' (s + 6) i = m (s + 6) i ∧ m' (s + 7) i = m (s + 7) i ∧ m' (s + 9) i = m (s + 9) i ∧ m' (s + 10) i = m (s + 10) i := fun i _ => ⟨k _ _ (by omega), k _ _ (by omega), k _ _ (by omega), k _ _ (by omega)⟩
  have h2 : ∀ i, i < 4 * m s 6 → m' (s + 8) i = m (s + 8) i := fun i _ => k _ _ (by omega)
  have h6 : m' s 6 = m s 6 := k _ _ (by omega)
  refine ⟨by rw [k (s + 11) r (by omega), h6]; exact AtC_cg (Int.le_refl _) h1 h2 a1, ⟨?_, fun j hj => ?_⟩, ⟨by rw [k _ _ (by omega), otC_1]; exact a4, fun j hj => ?_⟩, by simp; omega⟩
  · rw [psC_1, em, up_s, a2]
    simp
  · rw [psC_1] at hj ⊢
    rw [h6]
    have hj2 : j < (psC acc).length + 1 := by simpa using hj
    by_cases c : j = (psC acc).length
    · have e : m' (s + 12) (8 * r + (j : Int)) = x := by
        rw [c, em, a2, up_o (by omega), up_s]
      rw [e, c, getD_r]
      exact AtC_cg (Int.le_refl _) h1 h2 hA
    · rw [k _ _ (by omega), getD_l _ _ _ (by omega)]
      exact AtC_cg (Int.le_refl _) h1 h2 (a3 j (by omega))
  · rw [otC_1] at hj ⊢
    rw [h6, k _ _ (by omega)]
    exact AtC_cg (Int.le_refl _) h1 h2 (a5 j hj)
/-- another condition more -/
theorem RuI_oth {X : Int → List Int → Prop} {s b : Nat} {m m' : PM} {r x : Int} {h0 a : Atm} {acc : List (Nat × Atm)} (hs : s = 22 ∨ s = 42) (hb : ¬ b = 1) (hacc : acc.length < 8) (hR : RuI X s m r h0 acc) (hA : AtC X s m (m s 6) x (b, a)) (em : m' = up (up m (s + 15) (8 * r + m (s + 16) r) x) (s + 16) r (m (s + 16) r + 1)) : RuI X s m' r h0 (acc ++ [(b, a)]) := by
  obtain ⟨a1, ⟨a2, a3⟩, ⟨a4, a5⟩, a6⟩ := hR
  have hl := psot_len acc
  have k : ∀ c j, ¬ ((c = s + 15 ∧ j = 8 * r + ((otC acc).length : Int)) ∨ (c = s + 16 ∧ j = r)) → m' c j = m c j := by
    intro c j q
    rw [em, a4, up_o (by omega), up_o (by omega)]
  have h1 : ∀ i, i < m s 6 → m' (s + 6) i = m (s + 6) i ∧ m' (s + 7) i = m (s + 7) i ∧ m' (s + 9) i = m (s + 9) i ∧ m' (s + 10) i = m (s + 10) i := fun i _ => ⟨k _ _ (by omega), k _ _ (by omega), k _ _ (by omega), k _ _ (by omega)⟩
  have h2 : ∀ i, i < 4 * m s 6 → m' (s + 8) i = m (s + 8) i := fun i _ => k _ _ (by omega)
  have h6 : m' s 6 = m s 6 := k _ _ (by omega)
  refine ⟨by rw [k (s + 11) r (by omega), h6]; exact AtC_cg (Int.le_refl _) h1 h2 a1, ⟨by rw [k _ _ (by omega), psC_o hb]; exact a2, fun j hj => ?_⟩, ⟨?_, fun j hj => ?_⟩, by simp; omega⟩
  · rw [psC_o hb] at hj ⊢
    rw [h6, k _ _ (by omega)]
    exact AtC_cg (Int.le_refl _) h1 h2 (a3 j hj)
  · rw [otC_o hb, em, up_s, a4]
    simp
  · rw [otC_o hb] at hj ⊢
    rw [h6]
    have hj2 : j < (otC acc).length + 1 := by simpa using hj
    by_cases c : j = (otC acc).length
    · have e : m' (s + 15) (8 * r + (j : Int)) = x := by
        rw [c, em, a4, up_o (by omega), up_s]
      rw [e, c, getD_r]
      exact AtC_cg (Int.le_refl _) h1 h2 hA
    · rw [k _ _ (by omega), getD_l _ _ _ (by omega)]
      exact AtC_cg (Int.le_refl _) h1 h2 (a5 j (by omega))
/-- what reading rules from r on may write -/
abbrev WR (s : Nat) (N r : Int) (c : Nat) (j : Int) : Prop := (c = 62 ∧ (j = 2 ∨ j = 4)) ∨ c = 63 ∨ c = 64 ∨ (c = s ∧ j = 6) ∨ ((c = s + 6 ∨ c = s + 7 ∨ c = s + 9 ∨ c = s + 10) ∧ N ≤ j) ∨ (c = s + 8 ∧ 4 * N ≤ j) ∨ ((c = s + 11 ∨ c = s + 13 ∨ c = s + 16) ∧ r ≤ j) ∨ ((c = s + 12 ∨ c = s + 15) ∧ 8 * r ≤ j)
section CPF
variable {t : Int → Int} {n : Int} {X : Int → List Int → Prop} {J : Nat} {d : Nat} {μ : am_Mem} {m l : PM} {s : Nat} {i : Nat} {vs : List (List Int)}
/-- an atom that was read leaves the rule's rows -/
theorem AtQ_RuI {m' : PM} {D x r : Int} {q : Rd Atm} {h0 : Atm} {acc : List (Nat × Atm)} (hs : s = 22 ∨ s = 42) (fr : ∀ c j, ¬ WC s (m s 6) D c j → m' c j = m c j) (h6 : m s 6 ≤ m' s 6) (hR : RuI X s m r h0 acc) : RuI X s m' r h0 acc :=
  RuI_cg h6 (fun i hi => ⟨fr _ _ (by omega), fr _ _ (by omega), fr _ _ (by omega), fr _ _ (by omega)⟩) (fun i hi => fr _ _ (by omega)) (fr _ _ (by omega)) (fr _ _ (by omega)) (fr _ _ (by omega)) (fun j _ => fr _ _ (by omega)) (fun j _ => fr _ _ (by omega)) hR
theorem up_up2 (m : PM) (c : Nat) (i v v' : Int) : up (up m c i v) c i v' = up m c i v' := by
  funext c' i'
  unfold up
  by_cases h : c' = c ∧ i' = i
  · rw [if_pos h, if_pos h]
  · rw [if_neg h, if_neg h, if_neg h]
theorem CI_adv2 (hs : s = 22 ∨ s = 42) (h : CI t n X J s m i vs) (hl : i + 1 < J) : CI t n X J s (up m 62 2 (m 62 2 + 2)) (i + 2) vs := by
  have z := CI_adv hs (CI_adv hs h (by omega)) (by omega)
  rw [up_s, up_up2, show m 62 2 + 1 + 1 = m 62 2 + 2 by omega] at z
  exact z
theorem CI_lt1 (h : CI t n X J s m i vs) (h0 : ¬ (tK t n i = 0 ∨ tK t n i = 6)) (h1 : ¬ (tK t n (i + 1) = 0 ∨ tK t n (i + 1) = 6)) : i + 1 < J := by
  have a := CI_lt h h0
  by_cases c : i + 1 = J
  · exact absurd h.1.2.2.1 (by rw [← c]; exact h1)
  · omega
/-- the word behind an opening parenthesis -/
theorem word_iff {v : Int} (hX : XP X) (h : CI t n X J s m i vs) (e : v = (if ¬ (m 19 (m 62 2)) = 0 then ((-1) : Int) else if ¬ (m 19 ((m 62 2) + 1)) = 3 then ((-1) : Int) else m 21 ((m 62 2) + 1))) : iR v ∧ (v = 8 ↔ (tK t n i = 1 ∧ tK t n (i + 1) = 3 ∧ tW t n (i + 1) = wdL.getD 0 [])) ∧ (v = 9 ↔ (tK t n i = 1 ∧ tK t n (i + 1) = 3 ∧ tW t n (i + 1) = wdL.getD 1 [])) := by
  obtain ⟨hT, h2, h3, _⟩ := id h
  have hc := ck_all t n i
  have hc1 := ck_all t n (i + 1)
  have e19 : m 19 (m 62 2) = ckK (tK t n i) := by rw [h2]; exact (hT.2.2.2 i h3).1
  by_cases k1 : tK t n i = 1
  · have hlt := CI_lt h (by omega)
    have h20 := hT.2.2.2 (i + 1) (by omega)
    have e1 : m 62 2 + 1 = ((i + 1 : Nat) : Int) := by omega
    rw [e1, h20.1, e19, if_neg (not_not_intro (hc.1.mpr k1))] at e
    by_cases k3 : tK t n (i + 1) = 3
    · rw [if_neg (not_not_intro (hc1.2.2.1.mpr k3))] at e
      have hw := h20.2.2 (Or.inl k3)
      rw [← e] at hw
      have hb := hX.1 _ _ hw
      refine ⟨by unfold iR; omega, ⟨fun z => ⟨k1, k3, ?_⟩, fun z => ?_⟩, ⟨fun z => ⟨k1, k3, ?_⟩, fun z => ?_⟩⟩
      · rw [z] at hw; exact hX.2.1 _ _ _ hw hX.2.2.2.1
      · rw [z.2.2] at hw; exact hX.2.2.1 _ _ _ hw hX.2.2.2.1
      · rw [z] at hw; exact hX.2.1 _ _ _ hw hX.2.2.2.2
      · rw [z.2.2] at hw; exact hX.2.2.1 _ _ _ hw hX.2.2.2.2
    · rw [if_pos (fun z => k3 (hc1.2.2.1.mp z))] at e
      rw [e]
      exact ⟨by decide, ⟨fun z => absurd z (by decide), fun z => absurd z.2.1 k3⟩, ⟨fun z => absurd z (by decide), fun z => absurd z.2.1 k3⟩⟩
  · rw [e19, if_pos (fun z => k1 (hc.1.mp z))] at e
    rw [e]
    exact ⟨by decide, ⟨fun z => absurd z (by decide), fun z => absurd z.1 k1⟩, ⟨fun z => absurd z (by decide), fun z => absurd z.1 k1⟩⟩
end CPF
/-- what reading a condition does -/
def CoQ (t : Int → Int) (n : Int) (X : Int → List Int → Prop) (J s : Nat) (m : PM) (r : Int) (h0 : Atm) (acc : List (Nat × Atm)) (q : Rd (Nat × Atm)) (x : Int) (m' : PM) : Prop :=
  (∀ c j, ¬ WR s (m s 6) r c j → m' c j = m c j) ∧ match q with
  | .inl e => x = 0 ∧ m' 62 2 = (e : Int) ∧ e ≤ J
  | .inr (c, i', vs') => x = 1 ∧ CI t n X J s m' i' vs' ∧ m s 6 ≤ m' s 6 ∧ RuI X s m' r h0 (acc ++ [c]) ∧ CovC X s m' (m s 6) (m' s 6)
abbrev CoP (t : Int → Int) (n : Int) (X : Int → List Int → Prop) (J s : Nat) (μ : am_Mem) (l m : PM) (r : Int) (h0 : Atm) (acc : List (Nat × Atm)) (q : Rd (Nat × Atm)) : Int32 → am_Mem → Prop := fun y μ' => ∃ (x : Int) (m' : PM), y = zI x ∧ iR x ∧ μ' = sA μ m' l ∧ CoQ t n X J s m r h0 acc q x m'
