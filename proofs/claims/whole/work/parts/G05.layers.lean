/-! ===== layers there are, where nothing turns back through a negation ===== -/
/-- the same relation, or one that it depends on -/
def RfD (rs : List Rul) (x y : List Int) : Prop := x = y ∨ Dep rs x y
theorem RfD_t {rs : List Rul} {x y z : List Int} (h : RfD rs x y) (h' : RfD rs y z) : RfD rs x z := by
  rcases h with e | h
  · rw [e]; exact h'
  · rcases h' with e | h'
    · rw [← e]; exact Or.inr h
    · exact Or.inr (Relation.TransGen.trans h h')
/-- there is a negation on the way -/
def NgR (rs : List Rul) (w x : List Int) : Prop := ∃ ru, ru ∈ rs ∧ ∃ c, c ∈ ru.2 ∧ c.1 = 2 ∧ RfD rs w ru.1.1 ∧ RfD rs c.2.1 x
def ngL (rs : List Rul) : List (List Int) := rs.flatMap fun ru => ru.2.map fun c => c.2.1
noncomputable def lev0 (rs : List Rul) (w : List Int) : Nat := ((ngL rs).filter fun x => @decide (NgR rs w x) (Classical.propDecidable _)).length
theorem flt_le {α : Type} {p q : α → Bool} (h : ∀ x, p x = true → q x = true) : ∀ L : List α, (L.filter p).length ≤ (L.filter q).length := by
  intro L
  induction L with
  | nil => exact Nat.le_refl _
  | cons a L ih =>
    by_cases y : p a = true
    · rw [List.filter_cons_of_pos y, List.filter_cons_of_pos (h a y), List.length_cons, List.length_cons]
      omega
    · rw [List.filter_cons_of_neg y]
      by_cases z : q a = true
      · rw [List.filter_cons_of_pos z, List.length_cons]
        omega
      · rw [List.filter_cons_of_neg z]
        exact ih
theorem flt_lt {α : Type} {p q : α → Bool} (h : ∀ x, p x = true → q x = true) {u : α} (hu : p u = false) (hu' : q u = true) : ∀ L : List α, u ∈ L → (L.filter p).length < (L.filter q).length := by
  intro L
  induction L with
  | nil => intro hm; exact absurd hm List.not_mem_nil
  | cons a L ih =>
    intro hm
    by_cases e : a = u
    · rw [e, List.filter_cons_of_neg (by rw [hu]; decide), List.filter_cons_of_pos hu', List.length_cons]
      have := flt_le h L
      omega
    · have hm' : u ∈ L := by
        rcases List.mem_cons.mp hm with z | z
        · exact absurd z.symm e
        · exact z
      have i := ih hm'
      by_cases y : p a = true
      · rw [List.filter_cons_of_pos y, List.filter_cons_of_pos (h a y), List.length_cons, List.length_cons]
        omega
      · rw [List.filter_cons_of_neg y]
        by_cases z : q a = true
        · rw [List.filter_cons_of_pos z, List.length_cons]
          omega
        · rw [List.filter_cons_of_neg z]
          exact i
theorem lev0_o {rs : List Rul} (h6 : ∀ r, r < rs.length → ¬ Bad6 rs r) : LvO (lev0 rs) rs := by
  have edg : ∀ {ru c}, ru ∈ rs → c ∈ ru.2 → c.1 < 3 → RfD rs ru.1.1 c.2.1 := fun {ru c} h1 h2 h3 => Or.inr (Relation.TransGen.single ⟨ru, h1, rfl, c, h2, h3, rfl⟩)
  have mono : ∀ {ru c}, ru ∈ rs → c ∈ ru.2 → c.1 < 3 → ∀ x, NgR rs c.2.1 x → NgR rs ru.1.1 x := fun {ru c} h1 h2 h3 x ⟨ru', r1, c', c1, c2, c3, c4⟩ => ⟨ru', r1, c', c1, c2, RfD_t (edg h1 h2 h3) c3, c4⟩
  have self : ∀ u, ¬ NgR rs u u := by
    rintro u ⟨ru, r1, c, c1, c2, c3, c4⟩
    obtain ⟨i, hi, e⟩ := List.getElem_of_mem r1
    refine h6 i hi ⟨c, ?_, c2, ?_⟩
    · rw [List.getD_eq_getElem?_getD, List.getElem?_eq_getElem hi]
      show c ∈ (rs[i]).2
      rw [e]
      exact c1
    · rw [List.getD_eq_getElem?_getD, List.getElem?_eq_getElem hi]
      show Trn rs (rs[i]) c.2.1
      rw [e]
      exact RfD_t c4 c3
  intro ru hru c hc
  refine ⟨fun e => ?_, fun e => ?_⟩
  · refine flt_le (fun x hx => ?_) _
    exact @decide_eq_true _ (Classical.propDecidable _) (mono hru hc (by omega) x (@of_decide_eq_true _ (Classical.propDecidable _) hx))
  · refine flt_lt (u := c.2.1) (fun x hx => ?_) ?_ ?_ _ ?_
    · exact @decide_eq_true _ (Classical.propDecidable _) (mono hru hc (by omega) x (@of_decide_eq_true _ (Classical.propDecidable _) hx))
    · exact @decide_eq_false _ (Classical.propDecidable _) (self _)
    · exact @decide_eq_true _ (Classical.propDecidable _) ⟨ru, hru, c, hc, e, Or.inl rfl, Or.inl rfl⟩
    · exact List.mem_flatMap.mpr ⟨ru, hru, List.mem_map.mpr ⟨c, hc, rfl⟩⟩
theorem lev0_b {rs : List Rul} (w : List Int) : lev0 rs w ≤ (ngL rs).length := List.length_filter_le _ _
theorem ngL_b {rs : List Rul} (h : ∀ ru, ru ∈ rs → ru.2.length ≤ 8) : (ngL rs).length ≤ 8 * rs.length := by
  unfold ngL
  induction rs with
  | nil => exact Nat.le_refl _
  | cons ru rs ih =>
    have a := h ru List.mem_cons_self
    have b := ih (fun r hr => h r (List.mem_cons_of_mem _ hr))
    rw [List.flatMap_cons, List.length_append, List.length_map, List.length_cons]
    omega
