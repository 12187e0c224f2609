/-! ===== the codes of lists of terms ===== -/
/-- lists of terms are told by their codes -/
theorem flat_uni : ∀ {L M : List (List Cd)}, (∀ p, p ∈ L → GdC p) → (∀ p, p ∈ M → GdC p) → L.flatten = M.flatten → L = M := by
  intro L
  induction L with
  | nil =>
    intro M _ hM e
    cases M with
    | nil => rfl
    | cons c M =>
      obtain ⟨⟨f, hf⟩, _⟩ := hM c List.mem_cons_self
      match c, hf with
      | [], hf => cases f <;> exact absurd hf (fun z => z)
      | x :: c, _ => exact absurd e (by simp)
  | cons p L ih =>
    intro M hL hM e
    cases M with
    | nil =>
      obtain ⟨⟨f, hf⟩, _⟩ := hL p List.mem_cons_self
      match p, hf with
      | [], hf => cases f <;> exact absurd hf (fun z => z)
      | x :: c, _ => exact absurd e (by simp)
    | cons c M =>
      obtain ⟨⟨f, hf⟩, _⟩ := hL p List.mem_cons_self
      obtain ⟨⟨f', hf'⟩, _⟩ := hM c List.mem_cons_self
      rw [List.flatten_cons, List.flatten_cons] at e
      obtain ⟨e1, e2⟩ := wfS_pre (f + f') p c L.flatten M.flatten (wfS_mono _ _ _ (by omega) hf) (wfS_mono _ _ _ (by omega) hf') e
      rw [e1, ih (fun x hx => hL x (List.mem_cons_of_mem _ hx)) (fun x hx => hM x (List.mem_cons_of_mem _ hx)) e2]
theorem GdC_1 {p : List Cd} (h : GdC p) : 1 ≤ p.length := by
  obtain ⟨⟨f, hf⟩, _⟩ := h
  match p, hf with
  | [], hf => cases f <;> exact absurd hf (fun z => z)
  | _ :: _, _ => simp
theorem flat_len {L : List (List Cd)} : (∀ p, p ∈ L → GdC p) → L.length ≤ L.flatten.length := by
  induction L with
  | nil => intro _; exact Nat.le_refl _
  | cons p L ih =>
    intro h
    have h1 := GdC_1 (h p List.mem_cons_self)
    have h2 := ih (fun x hx => h x (List.mem_cons_of_mem _ hx))
    rw [List.flatten_cons, List.length_append, List.length_cons]
    omega
/-- what is still to be told behind each code -/
theorem sk_ex (L : List (List Cd)) (hL : ∀ p, p ∈ L → GdC p ∧ p.length ≤ 19) : ∃ sk : Nat → List (List Cd), sk 0 = L ∧ (∀ i, i ≤ L.flatten.length → (sk i).flatten = L.flatten.drop i ∧ (∀ p, p ∈ sk i → GdC p) ∧ (sk i).length ≤ 19 + L.length) ∧ ∀ i, i < L.flatten.length → ∃ (w : List Int) (ps rest : List (List Cd)), sk i = ((ps.length, w) :: ps.flatten) :: rest ∧ ps.length ≤ 4 ∧ (∀ p, p ∈ ps → GdC p) ∧ sk (i + 1) = ps ++ rest ∧ L.flatten.getD i (0, []) = (ps.length, w) := by
  have step : ∀ S : List (List Cd), ∃ S' : List (List Cd), (∀ p, p ∈ S → GdC p) → ∀ c r, S = c :: r → ∃ (w : List Int) (ps : List (List Cd)), c = (ps.length, w) :: ps.flatten ∧ ps.length ≤ 4 ∧ (∀ p, p ∈ ps → GdC p) ∧ S' = ps ++ r := by
    intro S
    match S with
    | [] => exact ⟨[], fun _ c r e => (nomatch e)⟩
    | [] :: r0 => 
      refine ⟨[], fun h c r e => ?_⟩
      obtain ⟨⟨f, hf⟩, _⟩ := h [] List.mem_cons_self
      cases f <;> exact absurd hf (fun z => z)
    | ((a, w) :: rest) :: r0 =>
      by_cases hg : GdC ((a, w) :: rest)
      · obtain ⟨_, ps, p1, p4, p2, p3⟩ := GdC_u hg
        refine ⟨ps ++ r0, fun _ c r e => ?_⟩
        obtain ⟨e1, e2⟩ := List.cons.inj e
        exact ⟨w, ps, by rw [← e1, p1, p2], by omega, p3, by rw [e2]⟩
      · exact ⟨[], fun h => absurd (h _ List.mem_cons_self) hg⟩
  obtain ⟨nx, hnx⟩ := Classical.axiomOfChoice step
  let sk : Nat → List (List Cd) := fun i => Nat.rec L (fun _ s => nx s) i
  have sk0 : sk 0 = L := rfl
  have sks : ∀ i, sk (i + 1) = nx (sk i) := fun _ => rfl
  have key : ∀ i, i ≤ L.flatten.length → ((sk i).flatten = L.flatten.drop i ∧ (∀ p, p ∈ sk i → GdC p) ∧ ∃ (st : List (List Cd)) (j : Nat), sk i = st ++ L.drop j ∧ st.flatten.length ≤ 19) := by
    intro i
    induction i with
    | zero => intro _; exact ⟨rfl, fun p hp => (hL p hp).1, [], 0, rfl, Nat.zero_le _⟩
    | succ i ih =>
      intro hi
      obtain ⟨a1, a2, st, j, a3, a4⟩ := ih (by omega)
      have hne : ¬ sk i = [] := fun e => by
        rw [e] at a1
        have : (L.flatten.drop i).length = 0 := by rw [← a1]; rfl
        rw [List.length_drop] at this
        omega
      obtain ⟨c, r, ecr⟩ : ∃ c r, sk i = c :: r := by
        match h : sk i, hne with
        | c :: r, _ => exact ⟨c, r, rfl⟩
      obtain ⟨w, ps, b1, b2, b3, b4⟩ := hnx (sk i) a2 c r ecr
      rw [sks i, b4]
      rw [ecr, b1, List.flatten_cons, List.cons_append] at a1
      refine ⟨?_, fun p hp => ?_, ?_⟩
      · rw [List.flatten_append, ← List.tail_drop, ← a1]
        rfl
      · rcases List.mem_append.mp hp with hp | hp
        · exact b3 p hp
        · exact a2 p (by rw [ecr]; exact List.mem_cons_of_mem _ hp)
      · match st, a3, a4 with
        | [], a3, _ =>
          rw [ecr, List.nil_append] at a3
          have hc : c ∈ L := List.mem_of_mem_drop (by rw [← a3]; exact List.mem_cons_self)
          refine ⟨ps, j + 1, ?_, ?_⟩
          · rw [← List.tail_drop, ← a3]
            rfl
          · have := (hL c hc).2
            rw [b1, List.length_cons] at this
            omega
        | x :: st, a3, a4 =>
          rw [ecr, List.cons_append] at a3
          obtain ⟨e1, e2⟩ := List.cons.inj a3
          refine ⟨ps ++ st, j, by rw [e2, List.append_assoc], ?_⟩
          rw [← e1, b1, List.flatten_cons, List.length_append, List.length_cons] at a4
          rw [List.flatten_append, List.length_append]
          omega
  refine ⟨sk, sk0, fun i hi => ?_, fun i hi => ?_⟩
  · obtain ⟨a1, a2, st, j, a3, a4⟩ := key i hi
    refine ⟨a1, a2, ?_⟩
    have := flat_len (L := st) (fun p hp => a2 p (by rw [a3]; exact List.mem_append_left _ hp))
    rw [a3, List.length_append, List.length_drop]
    omega
  · obtain ⟨a1, a2, _⟩ := key i (by omega)
    have hne : ¬ sk i = [] := fun e => by
      rw [e] at a1
      have : (L.flatten.drop i).length = 0 := by rw [← a1]; rfl
      rw [List.length_drop] at this
      omega
    obtain ⟨c, r, ecr⟩ : ∃ c r, sk i = c :: r := by
      match h : sk i, hne with
      | c :: r, _ => exact ⟨c, r, rfl⟩
    obtain ⟨w, ps, b1, b2, b3, b4⟩ := hnx (sk i) a2 c r ecr
    refine ⟨w, ps, r, by rw [ecr, b1], b2, b3, by rw [sks i, b4], ?_⟩
    rw [ecr, b1, List.flatten_cons, List.cons_append] at a1
    have e : (L.flatten.drop i).getD 0 (0, []) = L.flatten.getD i (0, []) := by
      rw [List.getD_eq_getElem?_getD, List.getD_eq_getElem?_getD, List.getElem?_drop]
      rfl
    rw [← e, ← a1]
    rfl
