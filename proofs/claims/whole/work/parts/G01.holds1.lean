/-! ===== what holds by the rules: lists of atoms, each for a reason ===== -/
/-- bound by terms without variables -/
def Gb (β : Nat → List Cd) : Prop := (∃ f, ∀ v, wfS f (β v)) ∧ ∀ v, gnd (β v)
/-- an atom with its variables bound -/
def sbA (β : Nat → List Cd) (a : Atm) : Atm := (a.1, a.2.map (sbC β))
/-- the conditions are fulfilled -/
def Fir (pos neg : Atm → Prop) (ru : Rul) (β : Nat → List Cd) : Prop := ∀ c, c ∈ ru.2 → (c.1 = 1 → pos (sbA β c.2)) ∧ (c.1 = 2 → ¬ neg (sbA β c.2)) ∧ (c.1 = 3 → ¬ sbC β (c.2.2.getD 0 []) = sbC β (c.2.2.getD 1 []))
/-- each atom is given, or follows from those before it -/
def Jst (rs : List Rul) (B : List Atm) (neg : Atm → Prop) (S : List Atm) : Prop := ∀ l1 a l2, S = l1 ++ a :: l2 → a ∈ B ∨ ∃ ru, ru ∈ rs ∧ ∃ β, Gb β ∧ sbA β ru.1 = a ∧ Fir (fun x => x ∈ l1) neg ru β
/-- what follows is there -/
def Clo (rs : List Rul) (P : Rul → Prop) (S : List Atm) : Prop := ∀ ru, ru ∈ rs → P ru → ∀ β, Gb β → Fir (fun x => x ∈ S) (fun x => x ∈ S) ru β → sbA β ru.1 ∈ S
/-- relations in layers -/
def LvO (lev : List Int → Nat) (rs : List Rul) : Prop := ∀ ru, ru ∈ rs → ∀ c, c ∈ ru.2 → (c.1 = 1 → lev c.2.1 ≤ lev ru.1.1) ∧ (c.1 = 2 → lev c.2.1 < lev ru.1.1)
theorem Fir_mono {p p' n n' : Atm → Prop} {ru : Rul} {β : Nat → List Cd} (hp : ∀ c, c ∈ ru.2 → c.1 = 1 → p (sbA β c.2) → p' (sbA β c.2)) (hn : ∀ c, c ∈ ru.2 → c.1 = 2 → n' (sbA β c.2) → n (sbA β c.2)) (h : Fir p n ru β) : Fir p' n' ru β := fun c hc => ⟨fun e => hp c hc e ((h c hc).1 e), fun e z => (h c hc).2.1 e (hn c hc e z), (h c hc).2.2⟩
/-- along a list, atom by atom -/
theorem jst_ind {rs : List Rul} {B : List Atm} {neg : Atm → Prop} {S : List Atm} (h : Jst rs B neg S) {T : Atm → Prop} (hT : ∀ a, a ∈ S → (a ∈ B ∨ ∃ ru, ru ∈ rs ∧ ∃ β, Gb β ∧ sbA β ru.1 = a ∧ Fir (fun x => x ∈ S ∧ T x) neg ru β) → T a) : ∀ a, a ∈ S → T a := by
  have key : ∀ n : Nat, ∀ l1 l2, S = l1 ++ l2 → l1.length = n → ∀ a, a ∈ l1 → T a := by
    intro n
    induction n with
    | zero =>
      intro l1 l2 _ e a ha
      rw [List.eq_nil_of_length_eq_zero e] at ha
      exact absurd ha List.not_mem_nil
    | succ n ih =>
      intro l1 l2 e el a ha
      rcases List.eq_nil_or_concat l1 with z | ⟨l, b, z⟩
      · rw [z] at el
        exact absurd el (by simp)
      · rw [List.concat_eq_append] at z
        have e' : S = l ++ b :: l2 := by rw [e, z, List.append_assoc]; rfl
        have hl : l.length = n := by rw [z, List.length_append, List.length_singleton] at el; omega
        have old := ih l (b :: l2) e' hl
        rw [z] at ha
        rcases List.mem_append.mp ha with ha | ha
        · exact old a ha
        · rw [List.mem_singleton.mp ha]
          refine hT b (by rw [e']; simp) ?_
          rcases h l b l2 e' with y | ⟨ru, r1, β, r2, r3, r4⟩
          · exact Or.inl y
          · exact Or.inr ⟨ru, r1, β, r2, r3, Fir_mono (fun c _ _ hx => ⟨by rw [e']; exact List.mem_append_left _ hx, old _ hx⟩) (fun _ _ _ z => z) r4⟩
  intro a ha
  exact key S.length S [] (by simp) rfl a ha
theorem sbA_1 (β : Nat → List Cd) (a : Atm) : (sbA β a).1 = a.1 := rfl
/-- a list that is worked out in part is part of every whole one -/
theorem jst_sub {rs : List Rul} {B S S0 : List Atm} {lev : List Int → Nat} {k : Nat} (hL : LvO lev rs) (hB : ∀ a, a ∈ B → a ∈ S) (hS : Jst rs B (fun x => x ∈ S) S) (hC : Clo rs (fun _ => True) S) (hB0 : ∀ a, a ∈ B → a ∈ S0 ∨ k ≤ lev a.1) (h0 : Jst rs B (fun x => x ∈ S0 ∨ k ≤ lev x.1) S0) (hC0 : Clo rs (fun ru => lev ru.1.1 < k) S0) : (∀ a, a ∈ S0 → a ∈ S) ∧ ∀ a, a ∈ S → lev a.1 < k → a ∈ S0 := by
  have both : ∀ j : Nat, (∀ a, a ∈ S → lev a.1 ≤ j → lev a.1 < k → a ∈ S0) ∧ (∀ a, a ∈ S0 → lev a.1 ≤ j → a ∈ S) := by
    intro j
    induction j using Nat.strongRecOn with
    | _ j ih =>
      have A : ∀ a, a ∈ S → lev a.1 ≤ j → lev a.1 < k → a ∈ S0 := by
        refine jst_ind hS (T := fun a => lev a.1 ≤ j → lev a.1 < k → a ∈ S0) (fun a _ ha hj hk => ?_)
        rcases ha with ha | ⟨ru, r1, β, r2, r3, r4⟩
        · rcases hB0 a ha with y | y
          · exact y
          · omega
        · have el : lev a.1 = lev ru.1.1 := by rw [← r3, sbA_1]
          rw [← r3]
          refine hC0 ru r1 (by omega) β r2 (fun c hc => ⟨fun e => ?_, fun e z => ?_, (r4 c hc).2.2⟩)
          · have l1 := (hL ru r1 c hc).1 e
            exact ((r4 c hc).1 e).2 (by rw [sbA_1]; omega) (by rw [sbA_1]; omega)
          · have l1 := (hL ru r1 c hc).2 e
            exact (r4 c hc).2.1 e ((ih (lev c.2.1) (by omega)).2 _ z (by rw [sbA_1]; omega))
      refine ⟨A, ?_⟩
      refine jst_ind h0 (T := fun a => lev a.1 ≤ j → a ∈ S) (fun a _ ha hj => ?_)
      rcases ha with ha | ⟨ru, r1, β, r2, r3, r4⟩
      · exact hB a ha
      · have el : lev a.1 = lev ru.1.1 := by rw [← r3, sbA_1]
        rw [← r3]
        refine hC ru r1 trivial β r2 (fun c hc => ⟨fun e => ?_, fun e z => ?_, (r4 c hc).2.2⟩)
        · have l1 := (hL ru r1 c hc).1 e
          exact ((r4 c hc).1 e).2 (by rw [sbA_1]; omega)
        · have l1 := (hL ru r1 c hc).2 e
          refine (r4 c hc).2.1 e ?_
          by_cases y : k ≤ lev (sbA β c.2).1
          · exact Or.inr y
          · exact Or.inl ((ih (lev c.2.1) (by omega)).1 _ z (by rw [sbA_1]; omega) (by omega))
  exact ⟨fun a ha => (both (lev a.1)).2 a ha (Nat.le_refl _), fun a ha hk => (both (lev a.1)).1 a ha (Nat.le_refl _) hk⟩
theorem ls_bd {α : Type} (g : α → Nat) : ∀ L : List α, ∃ M, ∀ x, x ∈ L → g x < M := by
  intro L
  induction L with
  | nil => exact ⟨0, fun x hx => absurd hx List.not_mem_nil⟩
  | cons y L ih =>
    obtain ⟨M, hM⟩ := ih
    refine ⟨M + g y + 1, fun x hx => ?_⟩
    rcases List.mem_cons.mp hx with e | hx
    · rw [e]; omega
    · have := hM x hx; omega
/-- two whole lists have the same atoms -/
theorem jst_uni {rs : List Rul} {B S S' : List Atm} {lev : List Int → Nat} (hL : LvO lev rs) (hB : ∀ a, a ∈ B → a ∈ S) (hS : Jst rs B (fun x => x ∈ S) S) (hC : Clo rs (fun _ => True) S) (hB' : ∀ a, a ∈ B → a ∈ S') (hS' : Jst rs B (fun x => x ∈ S') S') (hC' : Clo rs (fun _ => True) S') : ∀ a, a ∈ S' ↔ a ∈ S := by
  have half : ∀ {S S' : List Atm}, (∀ a, a ∈ B → a ∈ S) → Jst rs B (fun x => x ∈ S) S → Clo rs (fun _ => True) S → (∀ a, a ∈ B → a ∈ S') → Jst rs B (fun x => x ∈ S') S' → Clo rs (fun _ => True) S' → ∀ a, a ∈ S' → a ∈ S := by
    intro S S' hB hS hC hB' hS' hC' a ha
    obtain ⟨M2, hM2⟩ := ls_bd (fun c : Nat × Atm => lev c.2.1) (rs.flatMap fun ru => ru.2)
    refine (jst_sub (k := M2) (S0 := S') hL hB hS hC (fun a ha => Or.inl (hB' a ha)) (fun l1 a l2 e => ?_) (fun ru hru _ β hβ hf => hC' ru hru trivial β hβ hf)).1 a ha
    rcases hS' l1 a l2 e with y | ⟨ru, r1, β, r2, r3, r4⟩
    · exact Or.inl y
    · refine Or.inr ⟨ru, r1, β, r2, r3, fun c hc => ⟨(r4 c hc).1, fun e z => ?_, (r4 c hc).2.2⟩⟩
      rcases z with z | z
      · exact (r4 c hc).2.1 e z
      · rw [sbA_1] at z
        have := hM2 c (List.mem_flatMap.mpr ⟨ru, r1, hc⟩)
        omega
  exact fun a => ⟨half hB hS hC hB' hS' hC' a, half hB' hS' hC' hB hS hC a⟩
