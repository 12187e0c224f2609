/-! ===== names that are read are names; a sheet that is kept ===== -/
section NEN
variable {t : Int → Int} {n : Int}
theorem nep_in : ∀ (k : Nat) (p j : Int), p ≤ j → j < nep t k p → ¬ nmV (t j) = 0 := by
  intro k
  induction k with
  | zero =>
    intro p j h1 h2
    unfold nep at h2
    omega
  | succ k ih =>
    intro p j h1 h2
    unfold nep at h2
    by_cases q : nmV (t p) = 0
    · rw [if_pos q] at h2
      omega
    · rw [if_neg q] at h2
      by_cases e : j = p
      · rw [e]; exact q
      · exact ih (p + 1) j (by omega) h2
theorem tW_ne (hn : 0 ≤ n) {i : Nat} (h : tK t n i = 3) : 1 ≤ (tW t n i).length ∧ ∀ s, s ∈ tW t n i → ¬ nmV s = 0 := by
  have hp := tkP_r (t := t) hn i
  obtain ⟨a1, a2, a3, a4, a5, a6, a7⟩ := tk_name (t := t) h hp.2.1
  have hF : tF t n i = tkP t n i := a3
  have hE : tE t n i = neP t n (tkP t n i) := a4
  unfold tW
  rw [hF, hE]
  refine ⟨by rw [sl_len]; omega, fun s hs => ?_⟩
  unfold sl at hs
  obtain ⟨j, hj, e⟩ := List.mem_map.mp hs
  rw [← e]
  have hj := List.mem_range.mp hj
  exact nep_in (n - tkP t n i).toNat (tkP t n i) _ (by omega) (by unfold neP at hj; omega)
theorem NeC_c {c : Cd} {cs : List Cd} (h1 : c.1 < 5 → 1 ≤ c.2.length ∧ ∀ s, s ∈ c.2 → ¬ nmV s = 0) (h2 : NeC cs) : NeC (c :: cs) := fun x hx h5 => by
  rcases List.mem_cons.mp hx with e | hx
  · rw [e] at h5 ⊢
    exact h1 h5
  · exact h2 x hx h5
theorem NeC_0 : NeC [] := fun x hx => absurd hx List.not_mem_nil
theorem NeC_f {ps : List (List Cd)} (h : ∀ p, p ∈ ps → NeC p) : NeC ps.flatten := fun x hx h5 => by
  obtain ⟨p, p1, p2⟩ := List.mem_flatten.mp hx
  exact h p p1 x p2 h5
theorem pT0_ne (hn : 0 ≤ n) {i i' : Nat} {vs vs' : List (List Int)} {e : Rd (List Cd)} {cs : List Cd} (h : pT0 t n i vs e = .inr (cs, i', vs')) : e = .inr (cs, i', vs') ∨ NeC cs := by
  unfold pT0 at h
  split at h
  · split at h
    · cases h
      exact Or.inr (NeC_c (fun z => absurd z (by show ¬ 5 + _ < 5; omega)) NeC_0)
    · split at h
      · cases h
      · cases h
        exact Or.inr (NeC_c (fun z => absurd z (by show ¬ 5 + _ < 5; omega)) NeC_0)
  · split at h
    · rename_i k
      cases h
      exact Or.inr (NeC_c (fun _ => tW_ne hn k.1) NeC_0)
    · split at h
      · exact Or.inl h
      · cases h
theorem pT_ne (hn : 0 ≤ n) : ∀ (dl i : Nat) (vs : List (List Int)) (cs : List Cd) (i' : Nat) (vs' : List (List Int)), pT t n dl i vs = .inr (cs, i', vs') → NeC cs := by
  intro dl
  induction dl with
  | zero =>
    intro i vs cs i' vs' h
    rcases pT0_ne hn (show pT0 t n i vs (.inl i) = _ from h) with q | q
    · cases q
    · exact q
  | succ dl ih =>
    intro i vs cs i' vs' h
    rcases pT0_ne hn (show pT0 t n i vs _ = _ from h) with q | q
    · split at q
      · rename_i hp
        cases z : pPs (tK t n) (pT t n dl) 1 4 (i + 2) vs [] with
        | inl x => rw [z] at q; cases q
        | inr y =>
          obtain ⟨ps, j, ws⟩ := y
          rw [z] at q
          cases q
          exact NeC_c (fun _ => tW_ne hn hp.1) (NeC_f (pPs_all ih 4 (i + 2) vs [] ps _ _ (fun p hp => absurd hp List.not_mem_nil) z))
      · cases q
    · exact q
theorem pPa_ne (hn : 0 ≤ n) {dl i i' mn mx : Nat} {vs vs' : List (List Int)} {w : List Int} {a : Atm} (h : pPa t n dl i vs w mn mx = .inr (a, i', vs')) : ∀ p, p ∈ a.2 → NeC p := by
  unfold pPa at h
  cases z : pPs (tK t n) (pT t n dl) mn mx i vs [] with
  | inl x => rw [z] at h; cases h
  | inr y =>
    obtain ⟨ps, j, ws⟩ := y
    rw [z] at h
    cases h
    exact pPs_all (fun _ _ _ _ _ q => pT_ne hn _ _ _ _ _ _ q) mx i vs [] ps _ _ (fun p hp => absurd hp List.not_mem_nil) z
theorem pAt_ne (hn : 0 ≤ n) {dl i i' : Nat} {vs vs' : List (List Int)} {a : Atm} (h : pAt t n dl i vs = .inr (a, i', vs')) : ∀ p, p ∈ a.2 → NeC p := by
  unfold pAt at h
  split at h
  · cases h
    exact fun p hp => absurd hp List.not_mem_nil
  · split at h
    · split at h
      · exact pPa_ne hn h
      · cases h
    · cases h
/-- the heads' names -/
def OkE (rs : List Rul) : Prop := ∀ ru, ru ∈ rs → ∀ p, p ∈ ru.1.2 → NeC p
theorem pSh_ne (hn : 0 ≤ n) : ∀ (r i : Nat) (acc rs : List Rul), OkE acc → pSh t n r i acc = .inr rs → OkE rs := by
  intro r
  induction r with
  | zero =>
    intro i acc rs ha h
    unfold pSh at h
    split at h
    · cases h; exact ha
    · cases h
  | succ r ih =>
    intro i acc rs ha h
    unfold pSh at h
    split at h
    · cases h; exact ha
    · cases q : pRu t n i with
      | inl x => rw [q] at h; cases h
      | inr y =>
        obtain ⟨ru, j⟩ := y
        rw [q] at h
        refine ih j (acc ++ [ru]) rs (fun p hp => ?_) h
        rcases List.mem_append.mp hp with hp | hp
        · exact ha p hp
        · rw [List.mem_singleton.mp hp]
          unfold pRu at q
          split at q
          · cases z : pAt t n 8 (i + 2) [] with
            | inl x => rw [z] at q; cases q
            | inr y =>
              obtain ⟨a, j2, ws⟩ := y
              rw [z] at q
              simp only at q
              cases w : pCs t n 8 j2 ws [] with
              | inl x => rw [w] at q; cases q
              | inr y =>
                obtain ⟨cs, j3, ws2⟩ := y
                rw [w] at q
                cases q
                exact pAt_ne hn z
          · cases z : pAt t n 9 i [] with
            | inl x => rw [z] at q; cases q
            | inr y =>
              obtain ⟨a, j2, ws⟩ := y
              rw [z] at q
              cases q
              exact pAt_ne hn z
end NEN
/-- a sheet that is kept -/
def GoS (rs : List Rul) : Prop := OkS rs ∧ rs.length ≤ 60 ∧ OkL rs ∧ OkE rs ∧ (chF rs).1 = 0
/-- how many terms a relation's atoms have -/
noncomputable def wdt (rs : List Rul) (w : List Int) : Nat := @dite Nat (∃ a, upA rs rs.length a ∧ a.1 = w) (Classical.propDecidable _) (fun h => h.choose.2.length) (fun _ => (ownC w).toNat)
theorem GoS_cns {rs : List Rul} (h : GoS rs) : Cns (upA rs rs.length) := by
  cases e : rs.length with
  | zero => exact fun a ha => by obtain ⟨q, q1, _⟩ := ha; omega
  | succ k => exact Classical.byContradiction fun z => ((chF_ok h.2.2.2.2).1 k (by omega)).1 z
theorem wdt_in {rs : List Rul} (h : GoS rs) {a : Atm} (ha : upA rs rs.length a) : wdt rs a.1 = a.2.length := by
  have hex : ∃ b, upA rs rs.length b ∧ b.1 = a.1 := ⟨a, ha, rfl⟩
  unfold wdt
  rw [dif_pos hex]
  exact (GoS_cns h a ha).2 _ hex.choose_spec.1 hex.choose_spec.2
theorem wdt_own {rs : List Rul} (h : GoS rs) {w : List Int} (hw : 0 ≤ ownC w) : wdt rs w = (ownC w).toNat := by
  unfold wdt
  by_cases hex : ∃ b, upA rs rs.length b ∧ b.1 = w
  · rw [dif_pos hex]
    rcases (GoS_cns h _ hex.choose_spec.1).1 with z | z
    · rw [hex.choose_spec.2] at z
      omega
    · rw [hex.choose_spec.2] at z
      omega
  · rw [dif_neg hex]
theorem upA_h {rs : List Rul} {r : Nat} (hr : r < rs.length) : upA rs rs.length (rs.getD r ruD).1 := ⟨r, hr, Or.inl rfl⟩
theorem upA_c {rs : List Rul} {r : Nat} (hr : r < rs.length) {c : Nat × Atm} (hc : c ∈ (rs.getD r ruD).2) (h3 : c.1 < 3) : upA rs rs.length c.2 := ⟨r, hr, Or.inr ⟨c, hc, h3, rfl⟩⟩
