/-! ===== the roles are there, whatever is given ===== -/
theorem rlS_m {t : List Cd} : ∀ (rs : List Rul) (acc : List (List Cd)), t ∈ rs.foldl rlA acc → t ∈ acc ∨ ∃ ru, ru ∈ rs ∧ ru.1.1 = wdL.getD 2 [] ∧ ru.1.2.getD 0 [] = t := by
  intro rs
  induction rs with
  | nil => intro acc h; exact Or.inl h
  | cons ru rs ih =>
    intro acc h
    rcases ih (rlA acc ru) h with h1 | ⟨r2, h2, h3⟩
    · unfold rlA at h1
      by_cases y : ru.1.1 = wdL.getD 2 [] ∧ ¬ acc.length = 4 ∧ ¬ (ru.1.2.getD 0 []) ∈ acc
      · rw [if_pos y] at h1
        rcases List.mem_append.mp h1 with h1 | h1
        · exact Or.inl h1
        · exact Or.inr ⟨ru, List.mem_cons_self, y.1, (List.mem_singleton.mp h1).symm⟩
      · rw [if_neg y] at h1
        exact Or.inl h1
    · exact Or.inr ⟨r2, List.mem_cons_of_mem _ h2, h3⟩
theorem rlS_n : ∀ (rs : List Rul) (acc : List (List Cd)), acc.Nodup → acc.length ≤ 4 → (rs.foldl rlA acc).Nodup ∧ (rs.foldl rlA acc).length ≤ 4 := by
  intro rs
  induction rs with
  | nil => intro acc h h'; exact ⟨h, h'⟩
  | cons ru rs ih =>
    intro acc h h'
    refine ih (rlA acc ru) ?_ (rlA_len h')
    unfold rlA
    by_cases y : ru.1.1 = wdL.getD 2 [] ∧ ¬ acc.length = 4 ∧ ¬ (ru.1.2.getD 0 []) ∈ acc
    · rw [if_pos y]
      refine List.nodup_append.mpr ⟨h, by simp, fun x hx z hz e => ?_⟩
      rw [List.mem_singleton.mp hz] at e
      exact y.2.2 (e ▸ hx)
    · rw [if_neg y]
      exact h
theorem rlS_ok (rs : List Rul) : (rlS rs).Nodup ∧ (rlS rs).length ≤ 4 := rlS_n rs [] List.nodup_nil (by decide)
theorem rl_in {rs : List Rul} (hg : GoS rs) {B S : List Atm} (h : EvG rs B S) {t : List Cd} (ht : t ∈ rlS rs) : ((wdL.getD 2 [], [t]) : Atm) ∈ S := by
  rcases rlS_m rs [] ht with h1 | ⟨ru, hru, e1, e2⟩
  · exact absurd h1 List.not_mem_nil
  · obtain ⟨r, hr, er⟩ := (mem_gD rs ruD ru).mp hru
    have hb := (chF_ok hg.2.2.2.2).1 r hr
    obtain ⟨k1, k2, k3⟩ := role_ok hb.1 hb.2.1 (by rw [er]; exact e1)
    rw [er] at k1 k2 k3
    have hβ : Gb (fun _ => [((0, []) : Cd)]) := ⟨⟨1, fun _ => by show (if (5 : Nat) ≤ 0 then ([] : List Cd) = [] else ∃ ps : List (List Cd), ps.length = 0 ∧ ps.flatten = [] ∧ ∀ p, p ∈ ps → wfS 0 p); rw [if_neg (by decide)]; exact ⟨[], rfl, rfl, fun p hp => absurd hp List.not_mem_nil⟩⟩, fun _ c hc => by rw [List.mem_singleton.mp hc]; exact (by decide : (0 : Nat) < 5)⟩
    have hin := h.2.2.1 ru hru trivial _ hβ (fun c hc => by rw [k2] at hc; exact absurd hc List.not_mem_nil)
    have hl : ru.1.2 = [t] := by
      obtain ⟨x, hx⟩ := List.length_eq_one_iff.mp k1
      rw [hx] at e2 ⊢
      rw [show x = t from e2]
    have : sbA (fun _ => [((0, []) : Cd)]) ru.1 = (wdL.getD 2 [], [t]) := by
      unfold sbA
      rw [e1, hl, List.map_cons, List.map_nil, sbC_gnd t (k3 t (by rw [hl]; exact List.mem_singleton.mpr rfl))]
    rw [← this]
    exact hin
theorem rl_48 {rs : List Rul} (hg : GoS rs) {B : List Atm} (h : Evb rs B) {r : Nat} (hr : r < (rlS rs).length) : tlC ((rlS rs).getD r []) ≤ 48 := by
  obtain ⟨S, hS⟩ := h
  exact hS.2.2.2.2.2.1 _ (rl_in hg hS (gD_in hr)) _ (List.mem_singleton.mpr rfl)
