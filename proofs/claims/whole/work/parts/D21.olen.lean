/-! ===== how long the terms of a text are: no longer than what was read ===== -/
section OLE
variable {t : Int → Int} {n : Int}
theorem tkS_st (hn : 0 ≤ n) {i : Nat} (h : ¬ tK t n i = 0) : tkS t n i + 1 ≤ tkS t n (i + 1) := by
  have hp := tkP_r (t := t) hn i
  have hl : tkP t n i < n := Int.lt_of_not_ge fun q => h (by unfold tK tkK; rw [if_pos q])
  have z := (tk_le (t := t) (p := tkP t n i) ⟨hp.2.1, hp.2.2⟩).2.2 hl
  rw [tkS_s]
  unfold tE
  omega
theorem tkS_w (hn : 0 ≤ n) {i : Nat} (h : tK t n i = 3) : ((tW t n i).length : Int) + tkS t n i ≤ tkS t n (i + 1) := by
  have z := tN_r (t := t) hn (i := i) (Or.inl h)
  have e : (tW t n i).length = (tE t n i - tF t n i).toNat := by unfold tW; exact sl_len _ _ _
  rw [tkS_s, e]
  omega
theorem tkS_v (hn : 0 ≤ n) {i : Nat} (h : tK t n i = 4) : 2 + tkS t n i ≤ tkS t n (i + 1) := by
  have hp := tkP_r (t := t) hn i
  obtain ⟨a1, a2, a3, a4, a5, a6, a7, a8⟩ := tk_var h hp.2.1
  rw [tkS_s]
  unfold tE
  omega
theorem wC_1 (c : Cd) : wC [c] = (c.2.length : Int) + (if c.1 = 0 then 0 else 2) := by
  unfold wC
  rw [List.map_cons, List.map_nil, List.sum_cons, List.sum_nil]
  omega
theorem wC_c (c : Cd) (cs : List Cd) : wC (c :: cs) = ((c.2.length : Int) + (if c.1 = 0 then 0 else 2)) + wC cs := by
  unfold wC
  rw [List.map_cons, List.sum_cons]
theorem pT0_w (hn : 0 ≤ n) {i i' : Nat} {vs vs' : List (List Int)} {e : Rd (List Cd)} {cs : List Cd} (h : pT0 t n i vs e = .inr (cs, i', vs')) : (e = .inr (cs, i', vs') ∧ tK t n i = 1) ∨ wC cs + tkS t n i ≤ tkS t n i' := by
  unfold pT0 at h
  split at h
  · rename_i k
    have z := tkS_v hn k
    have e5 : ∀ k : Nat, wC [((5 + k, []) : Cd)] = 2 := fun k => by
      rw [wC_1, if_neg (by show ¬ 5 + k = 0; omega)]
      rfl
    split at h
    · cases h
      rw [e5]
      exact Or.inr z
    · split at h
      · cases h
      · cases h
        rw [e5]
        exact Or.inr z
  · split at h
    · rename_i k
      have z := tkS_w hn k.1
      cases h
      rw [wC_1, if_pos (by rfl)]
      exact Or.inr (by show ((tW t n i).length : Int) + 0 + tkS t n i ≤ _; omega)
    · split at h
      · rename_i k
        exact Or.inl ⟨h, k⟩
      · cases h
theorem pPs_w (hn : 0 ≤ n) {f : Nat → List (List Int) → Rd (List Cd)} {mn : Nat} (hf : ∀ i vs c i' vs', f i vs = .inr (c, i', vs') → wC c + tkS t n i ≤ tkS t n i') : ∀ (r i : Nat) (vs : List (List Int)) (acc ps : List (List Cd)) (i' : Nat) (vs' : List (List Int)), pPs (tK t n) f mn r i vs acc = .inr (ps, i', vs') → wC ps.flatten + tkS t n i + 1 ≤ wC acc.flatten + tkS t n i' := by
  intro r
  induction r with
  | zero =>
    intro i vs acc ps i' vs' h
    unfold pPs at h
    split at h
    · rename_i k
      have z := tkS_st (t := t) hn (i := i) (by rw [k.1]; decide)
      cases h; omega
    · cases h
  | succ r ih =>
    intro i vs acc ps i' vs' h
    unfold pPs at h
    split at h
    · rename_i k
      have z := tkS_st (t := t) hn (i := i) (by rw [k.1]; decide)
      cases h; omega
    · cases q : f i vs with
      | inl x => rw [q] at h; cases h
      | inr y =>
        obtain ⟨c, j, ws⟩ := y
        rw [q] at h
        have h1 := ih j ws (acc ++ [c]) ps i' vs' h
        have h2 := hf _ _ _ _ _ q
        have e : wC (acc ++ [c]).flatten = wC acc.flatten + wC c := by
          rw [List.flatten_append, wC_app, List.flatten_cons, List.flatten_nil, List.append_nil]
        omega
theorem pT_w (hn : 0 ≤ n) : ∀ (dl i : Nat) (vs : List (List Int)) (cs : List Cd) (i' : Nat) (vs' : List (List Int)), pT t n dl i vs = .inr (cs, i', vs') → wC cs + tkS t n i ≤ tkS t n i' := by
  intro dl
  induction dl with
  | zero =>
    intro i vs cs i' vs' h
    rcases pT0_w hn (show pT0 t n i vs (.inl i) = _ from h) with q | q
    · cases q.1
    · exact q
  | succ dl ih =>
    intro i vs cs i' vs' h
    rcases pT0_w hn (show pT0 t n i vs _ = _ from h) with ⟨q, k⟩ | q
    · split at q
      · rename_i hp
        cases z : pPs (tK t n) (pT t n dl) 1 4 (i + 2) vs [] with
        | inl x => rw [z] at q; cases q
        | inr y =>
          obtain ⟨ps, j, ws⟩ := y
          rw [z] at q
          cases q
          have h1 := pPs_w hn ih 4 (i + 2) vs [] ps i' vs' z
          have h2 := tkS_w hn (i := i + 1) hp.1
          have h3 := tkS_st (t := t) hn (i := i) (by rw [k]; decide)
          have e0 : wC ([] : List (List Cd)).flatten = 0 := rfl
          have e2 : i + 1 + 1 = i + 2 := rfl
          rw [e2] at h2
          rw [wC_c]
          have e3 : (if (ps.length, tW t n (i + 1)).1 = 0 then (0 : Int) else 2) ≤ 2 := by split <;> decide
          have e4 : (((ps.length, tW t n (i + 1)) : Cd).2.length : Int) = ((tW t n (i + 1)).length : Int) := rfl
          omega
      · cases q
    · exact q
theorem pPs_all {K : Nat → Int} {f : Nat → List (List Int) → Rd (List Cd)} {mn : Nat} {T : List Cd → Prop} (hf : ∀ i vs c i' vs', f i vs = .inr (c, i', vs') → T c) : ∀ (r i : Nat) (vs : List (List Int)) (acc ps : List (List Cd)) (i' : Nat) (vs' : List (List Int)), (∀ p, p ∈ acc → T p) → pPs K f mn r i vs acc = .inr (ps, i', vs') → ∀ p, p ∈ ps → T p := by
  intro r
  induction r with
  | zero =>
    intro i vs acc ps i' vs' ha h
    unfold pPs at h
    split at h
    · cases h; exact ha
    · cases h
  | succ r ih =>
    intro i vs acc ps i' vs' ha h
    unfold pPs at h
    split at h
    · cases h; exact ha
    · cases q : f i vs with
      | inl x => rw [q] at h; cases h
      | inr y =>
        obtain ⟨c, j, ws⟩ := y
        rw [q] at h
        refine ih j ws (acc ++ [c]) ps i' vs' (fun p hp => ?_) h
        rcases List.mem_append.mp hp with hp | hp
        · exact ha p hp
        · rw [List.mem_singleton.mp hp]
          exact hf _ _ _ _ _ q
/-- a term read from a text of 2000 signs -/
abbrev OkW (p : List Cd) : Prop := wC p ≤ 2000 ∧ p.length ≤ 1000
theorem pT_ow (hn : 0 ≤ n ∧ n ≤ 2000) {dl i : Nat} {vs : List (List Int)} {cs : List Cd} {i' : Nat} {vs' : List (List Int)} (h : pT t n dl i vs = .inr (cs, i', vs')) : OkW cs := by
  have h1 := pT_w hn.1 dl i vs cs i' vs' h
  have h2 := pT_nt dl i vs cs i' vs' h
  have h3 := tks_r (t := t) hn.1 i
  have h4 := tks_r (t := t) hn.1 i'
  have h5 := nt_le (t := t) hn i'
  exact ⟨by omega, by omega⟩
/-- all terms of the heads -/
def OkL (rs : List Rul) : Prop := ∀ ru, ru ∈ rs → ∀ p, p ∈ ru.1.2 → OkW p
theorem pPa_ow (hn : 0 ≤ n ∧ n ≤ 2000) {dl i i' mn mx : Nat} {vs vs' : List (List Int)} {w : List Int} {a : Atm} (h : pPa t n dl i vs w mn mx = .inr (a, i', vs')) : ∀ p, p ∈ a.2 → OkW p := by
  unfold pPa at h
  cases z : pPs (tK t n) (pT t n dl) mn mx i vs [] with
  | inl x => rw [z] at h; cases h
  | inr y =>
    obtain ⟨ps, j, ws⟩ := y
    rw [z] at h
    cases h
    exact pPs_all (fun _ _ _ _ _ q => pT_ow hn q) mx i vs [] ps _ _ (fun p hp => absurd hp List.not_mem_nil) z
theorem pAt_ow (hn : 0 ≤ n ∧ n ≤ 2000) {dl i i' : Nat} {vs vs' : List (List Int)} {a : Atm} (h : pAt t n dl i vs = .inr (a, i', vs')) : ∀ p, p ∈ a.2 → OkW p := by
  unfold pAt at h
  split at h
  · cases h
    exact fun p hp => absurd hp List.not_mem_nil
  · split at h
    · split at h
      · exact pPa_ow hn h
      · cases h
    · cases h
theorem pSh_ow (hn : 0 ≤ n ∧ n ≤ 2000) : ∀ (r i : Nat) (acc rs : List Rul), OkL acc → pSh t n r i acc = .inr rs → OkL rs := by
  intro r
  induction r with
  | zero =>
    intro i acc rs ha h
    unfold pSh at h
    split at h
    · cases h; exact ha
    · cases h
  | succ r ih =>
    intro i acc rs ha h
    unfold pSh at h
    split at h
    · cases h; exact ha
    · cases q : pRu t n i with
      | inl x => rw [q] at h; cases h
      | inr y =>
        obtain ⟨ru, j⟩ := y
        rw [q] at h
        refine ih j (acc ++ [ru]) rs (fun p hp => ?_) h
        rcases List.mem_append.mp hp with hp | hp
        · exact ha p hp
        · rw [List.mem_singleton.mp hp]
          unfold pRu at q
          split at q
          · cases z : pAt t n 8 (i + 2) [] with
            | inl x => rw [z] at q; cases q
            | inr y =>
              obtain ⟨a, j2, ws⟩ := y
              rw [z] at q
              simp only at q
              cases w : pCs t n 8 j2 ws [] with
              | inl x => rw [w] at q; cases q
              | inr y =>
                obtain ⟨cs, j3, ws2⟩ := y
                rw [w] at q
                cases q
                exact pAt_ow hn z
          · cases z : pAt t n 9 i [] with
            | inl x => rw [z] at q; cases q
            | inr y =>
              obtain ⟨a, j2, ws⟩ := y
              rw [z] at q
              cases q
              exact pAt_ow hn z
end OLE
