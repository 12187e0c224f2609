/-! ===== how many codes a term of 48 signs has; bound terms ===== -/
/-- names are names: not empty, of names' signs -/
def NeC (cs : List Cd) : Prop := ∀ c, c ∈ cs → c.1 < 5 → 1 ≤ c.2.length ∧ ∀ s, s ∈ c.2 → ¬ nmV s = 0
theorem cd_19 {f : Nat} {cs : List Cd} (hw : wfS f cs) (hg : gnd cs) (hn : NeC cs) (h48 : tlC cs ≤ 48) : cs.length ≤ 19 := by
  have a := tl_wn cs
  have b := nC_wf f cs hw hg
  have key : ∀ L : List Cd, (∀ c, c ∈ L → c.1 < 5) → NeC L → ∃ W : Int, 0 ≤ W ∧ (L.length : Int) + 2 * W ≤ wC L ∧ nC L ≤ 4 * W := by
    intro L
    induction L with
    | nil => intro _ _; exact ⟨0, Int.le_refl _, Int.le_refl _, Int.le_refl _⟩
    | cons c L ih =>
      intro hg hn
      obtain ⟨W, w0, w1, w2⟩ := ih (fun c' hc => hg c' (List.mem_cons_of_mem _ hc)) (fun c' hc => hn c' (List.mem_cons_of_mem _ hc))
      have h5 := hg c List.mem_cons_self
      have h1 := (hn c List.mem_cons_self h5).1
      have e1 : wC (c :: L) = ((c.2.length : Int) + (if c.1 = 0 then 0 else 2)) + wC L := by unfold wC; rw [List.map_cons, List.sum_cons]
      have e2 : nC (c :: L) = (c.1 : Int) + nC L := by unfold nC; rw [List.map_cons, List.sum_cons]
      by_cases z : c.1 = 0
      · rw [if_pos z] at e1
        exact ⟨W, w0, by rw [List.length_cons, e1]; omega, by rw [e2]; omega⟩
      · rw [if_neg z] at e1
        exact ⟨W + 1, by omega, by rw [List.length_cons, e1]; omega, by rw [e2]; omega⟩
  obtain ⟨W, w0, w1, w2⟩ := key cs hg hn
  omega
theorem sb_cons (β : Nat → List Cd) (c : Cd) (cs : List Cd) : sbC β (c :: cs) = (if 5 ≤ c.1 then β (c.1 - 5) else [c]) ++ sbC β cs := by
  unfold sbC
  rw [List.flatMap_cons]
theorem sb_len {β : Nat → List Cd} (hβ : ∀ v, 1 ≤ (β v).length) : ∀ cs : List Cd, cs.length ≤ (sbC β cs).length := by
  intro cs
  induction cs with
  | nil => exact Nat.zero_le _
  | cons c cs ih =>
    rw [sb_cons, List.length_append, List.length_cons]
    by_cases h : 5 ≤ c.1
    · rw [if_pos h]
      have := hβ (c.1 - 5)
      omega
    · rw [if_neg h, List.length_singleton]
      omega
theorem sb_agree {β β' : Nat → List Cd} : ∀ cs : List Cd, (∀ c, c ∈ cs → 5 ≤ c.1 → β (c.1 - 5) = β' (c.1 - 5)) → sbC β cs = sbC β' cs := by
  intro cs
  induction cs with
  | nil => intro _; rfl
  | cons c cs ih =>
    intro h
    rw [sb_cons, sb_cons, ih (fun c' hc => h c' (List.mem_cons_of_mem _ hc))]
    by_cases h5 : 5 ≤ c.1
    · rw [if_pos h5, if_pos h5, h c List.mem_cons_self h5]
    · rw [if_neg h5, if_neg h5]
theorem sbA_agree {β β' : Nat → List Cd} {a : Atm} (h : ∀ p, p ∈ a.2 → ∀ c, c ∈ p → 5 ≤ c.1 → β (c.1 - 5) = β' (c.1 - 5)) : sbA β a = sbA β' a := by
  unfold sbA
  congr 1
  exact List.map_congr_left fun p hp => sb_agree p (h p hp)
theorem sb_var {β : Nat → List Cd} {cs : List Cd} {c : Cd} (hc : c ∈ cs) (h5 : 5 ≤ c.1) {x : Cd} (hx : x ∈ β (c.1 - 5)) : x ∈ sbC β cs := by
  unfold sbC
  refine List.mem_flatMap.mpr ⟨c, hc, ?_⟩
  rw [if_pos h5]
  exact hx
theorem sb_ne {β : Nat → List Cd} {cs : List Cd} (hc : NeC cs) (hv : ∀ c, c ∈ cs → 5 ≤ c.1 → NeC (β (c.1 - 5))) : NeC (sbC β cs) := by
  intro x hx h5
  unfold sbC at hx
  obtain ⟨c, c1, c2⟩ := List.mem_flatMap.mp hx
  by_cases h : 5 ≤ c.1
  · rw [if_pos h] at c2
    exact hv c c1 h x c2 h5
  · rw [if_neg h] at c2
    rw [List.mem_singleton.mp c2] at h5 ⊢
    exact hc c c1 h5
/-- a bound for the length of a bound term -/
theorem sb_tl {β : Nat → List Cd} : ∀ cs : List Cd, (∀ c, c ∈ cs → 5 ≤ c.1 → 0 ≤ tlC (β (c.1 - 5)) ∧ tlC (β (c.1 - 5)) ≤ 48) → 0 ≤ tlC (sbC β cs) ∧ tlC (sbC β cs) ≤ wC cs + 48 * (cs.length : Int) := by
  intro cs
  induction cs with
  | nil => intro _; exact ⟨Int.le_refl _, Int.le_refl _⟩
  | cons c cs ih =>
    intro h
    obtain ⟨a1, a2⟩ := ih (fun c' hc => h c' (List.mem_cons_of_mem _ hc))
    have e1 : wC (c :: cs) = ((c.2.length : Int) + (if c.1 = 0 then 0 else 2)) + wC cs := by unfold wC; rw [List.map_cons, List.sum_cons]
    rw [sb_cons, tl_app, List.length_cons, e1]
    by_cases h5 : 5 ≤ c.1
    · obtain ⟨b1, b2⟩ := h c List.mem_cons_self h5
      rw [if_pos h5, if_neg (by omega)]
      omega
    · rw [if_neg h5]
      have e2 : tlC [c] = ((c.2.length : Int) + (if c.1 = 0 then 0 else 2 + (c.1 : Int))) + 0 := by
        unfold tlC
        rw [List.map_cons, List.sum_cons]
        rfl
      rw [e2]
      by_cases z : c.1 = 0
      · rw [if_pos z, if_pos z]; omega
      · rw [if_neg z, if_neg z]; omega
theorem tl_0 (cs : List Cd) : 0 ≤ tlC cs := by
  induction cs with
  | nil => exact Int.le_refl _
  | cons c cs ih =>
    unfold tlC at *
    rw [List.map_cons, List.sum_cons]
    by_cases z : c.1 = 0
    · rw [if_pos z]; omega
    · rw [if_neg z]; omega
/-- a binding made whole -/
def fulB (b : Nat → Option (List Cd)) : Nat → List Cd := fun v => (b v).getD [(0, [])]
theorem fulB_e (b : Nat → Option (List Cd)) : Ext b (fulB b) := fun v q e => by
  unfold fulB
  rw [e]
  rfl
theorem fulB_g {b : Nat → Option (List Cd)} {g : Nat} (h : ∀ v q, b v = some q → wfS g q ∧ gnd q) : Gb (fulB b) := by
  have w0 : wfS (g + 1) [((0, []) : Cd)] := (wfS_n (by decide)).mpr ⟨[], rfl, rfl, fun p hp => absurd hp List.not_mem_nil⟩
  refine ⟨⟨g + 1, fun v => ?_⟩, fun v => ?_⟩
  · unfold fulB
    cases e : b v with
    | none => exact w0
    | some q => exact wfS_mono _ _ _ (by omega) (h v q e).1
  · unfold fulB
    cases e : b v with
    | none =>
      intro c hc
      rw [List.mem_singleton.mp hc]
      decide
    | some q => exact (h v q e).2
theorem sb_tl_v {β : Nat → List Cd} : ∀ cs : List Cd, ∀ c, c ∈ cs → 5 ≤ c.1 → tlC (β (c.1 - 5)) ≤ tlC (sbC β cs) := by
  intro cs
  induction cs with
  | nil => intro c hc; exact absurd hc List.not_mem_nil
  | cons x cs ih =>
    intro c hc h5
    rw [sb_cons, tl_app]
    rcases List.mem_cons.mp hc with e | hc
    · rw [← e, if_pos h5]
      have := tl_0 (sbC β cs)
      omega
    · have a := ih c hc h5
      have b := tl_0 (if 5 ≤ x.1 then β (x.1 - 5) else [x])
      omega
