/-! ===== terms with their variables bound ===== -/
/-- a term with its variables bound -/
def sbC (β : Nat → List Cd) (cs : List Cd) : List Cd := cs.flatMap fun c => if 5 ≤ c.1 then β (c.1 - 5) else [c]
theorem sbC_app (β : Nat → List Cd) (p q : List Cd) : sbC β (p ++ q) = sbC β p ++ sbC β q := by
  unfold sbC
  rw [List.flatMap_append]
theorem sbC_flat (β : Nat → List Cd) : ∀ ps : List (List Cd), sbC β ps.flatten = (ps.map (sbC β)).flatten := by
  intro ps
  induction ps with
  | nil => rfl
  | cons p ps ih =>
    rw [List.flatten_cons, sbC_app, ih, List.map_cons, List.flatten_cons]
theorem sbC_var (β : Nat → List Cd) {a : Nat} {w : List Int} (h : 5 ≤ a) : sbC β [(a, w)] = β (a - 5) := by
  unfold sbC
  rw [List.flatMap_cons, List.flatMap_nil, List.append_nil]
  exact if_pos h
theorem sbC_name (β : Nat → List Cd) {ps : List (List Cd)} {w : List Int} (h : ps.length ≤ 4) : sbC β ((ps.length, w) :: ps.flatten) = ((ps.map (sbC β)).length, w) :: (ps.map (sbC β)).flatten := by
  rw [← sbC_flat, List.length_map]
  show sbC β ([(ps.length, w)] ++ ps.flatten) = _
  rw [sbC_app]
  have e : sbC β [(ps.length, w)] = [(ps.length, w)] := by
    unfold sbC
    rw [List.flatMap_cons, List.flatMap_nil, List.append_nil]
    exact if_neg (by show ¬ 5 ≤ ps.length; omega)
  rw [e]
  rfl
theorem wfS_v {f a : Nat} {w : List Int} {rest : List Cd} (q : 5 ≤ a) : wfS (f + 1) ((a, w) :: rest) ↔ rest = [] := by
  unfold wfS
  show (if 5 ≤ a then rest = [] else ∃ ps : List (List Cd), ps.length = a ∧ ps.flatten = rest ∧ ∀ p, p ∈ ps → wfS f p) ↔ _
  rw [if_pos q]
theorem wfS_n {f a : Nat} {w : List Int} {rest : List Cd} (q : ¬ 5 ≤ a) : wfS (f + 1) ((a, w) :: rest) ↔ ∃ ps : List (List Cd), ps.length = a ∧ ps.flatten = rest ∧ ∀ p, p ∈ ps → wfS f p := by
  conv => lhs; unfold wfS
  show (if 5 ≤ a then rest = [] else ∃ ps : List (List Cd), ps.length = a ∧ ps.flatten = rest ∧ ∀ p, p ∈ ps → wfS f p) ↔ _
  rw [if_neg q]
theorem TmR_v {m : PM} {f a : Nat} {k : Int} {w : List Int} {rest : List Cd} (q : 5 ≤ a) : TmR (f + 1) m k ((a, w) :: rest) ↔ (rest = [] ∧ m 138 k = -1 ∧ m 139 k = (a : Int) - 5 ∧ m 140 k = 0 ∧ m 142 k = k + 1) := by
  conv => lhs; unfold TmR
  show (if 5 ≤ a then rest = [] ∧ m 138 k = -1 ∧ m 139 k = (a : Int) - 5 ∧ m 140 k = 0 ∧ m 142 k = k + 1
      else ∃ ps : List (List Cd), ps.length = a ∧ ps.flatten = rest ∧ nX m (m 138 k) w ∧ m 139 k = -1 ∧ m 140 k = a ∧ m 142 k = k + (rest.length + 1 : Nat) ∧ PsR (TmR f m) m 141 k 0 (k + 1) ps) ↔ _
  rw [if_pos q]
theorem TmR_n {m : PM} {f a : Nat} {k : Int} {w : List Int} {rest : List Cd} (q : ¬ 5 ≤ a) : TmR (f + 1) m k ((a, w) :: rest) ↔ ∃ ps : List (List Cd), ps.length = a ∧ ps.flatten = rest ∧ nX m (m 138 k) w ∧ m 139 k = -1 ∧ m 140 k = a ∧ m 142 k = k + (rest.length + 1 : Nat) ∧ PsR (TmR f m) m 141 k 0 (k + 1) ps := by
  conv => lhs; unfold TmR
  show (if 5 ≤ a then rest = [] ∧ m 138 k = -1 ∧ m 139 k = (a : Int) - 5 ∧ m 140 k = 0 ∧ m 142 k = k + 1
      else ∃ ps : List (List Cd), ps.length = a ∧ ps.flatten = rest ∧ nX m (m 138 k) w ∧ m 139 k = -1 ∧ m 140 k = a ∧ m 142 k = k + (rest.length + 1 : Nat) ∧ PsR (TmR f m) m 141 k 0 (k + 1) ps) ↔ _
  rw [if_neg q]
theorem wfS_mono : ∀ (f f' : Nat) (cs : List Cd), f ≤ f' → wfS f cs → wfS f' cs := by
  intro f
  induction f with
  | zero => intro f' cs _ h; exact absurd h (fun z => z)
  | succ f ih =>
    intro f' cs hf h
    obtain ⟨g, rfl⟩ : ∃ g, f' = g + 1 := ⟨f' - 1, by omega⟩
    cases cs with
    | nil => exact absurd h (fun z => z)
    | cons c rest =>
      obtain ⟨a, w⟩ := c
      by_cases q : 5 ≤ a
      · exact (wfS_v q).mpr ((wfS_v q).mp h)
      · obtain ⟨ps, h1, h2, h3⟩ := (wfS_n q).mp h
        exact (wfS_n q).mpr ⟨ps, h1, h2, fun p hp => ih g p (by omega) (h3 p hp)⟩
theorem sbC_wf {β : Nat → List Cd} {g : Nat} : ∀ (f : Nat) (cs : List Cd), (∀ c, c ∈ cs → 5 ≤ c.1 → wfS g (β (c.1 - 5))) → wfS f cs → wfS (f + g) (sbC β cs) := by
  intro f
  induction f with
  | zero => intro cs _ h; exact absurd h (fun z => z)
  | succ f ih =>
    intro cs hb h
    cases cs with
    | nil => exact absurd h (fun z => z)
    | cons c rest =>
      obtain ⟨a, w⟩ := c
      by_cases q : 5 ≤ a
      · have h' : rest = [] := (wfS_v q).mp h
        rw [h', sbC_var β q]
        exact wfS_mono g _ _ (by omega) (hb (a, w) List.mem_cons_self q)
      · obtain ⟨ps, h1, h2, h3⟩ := (wfS_n q).mp h
        rw [← h1, ← h2, sbC_name β (by omega), show f + 1 + g = (f + g) + 1 by omega]
        refine (wfS_n (by rw [List.length_map]; omega)).mpr ⟨ps.map (sbC β), rfl, rfl, fun p hp => ?_⟩
        obtain ⟨p', hp', rfl⟩ := List.mem_map.mp hp
        refine ih p' (fun c hc => hb c (List.mem_cons_of_mem _ ?_)) (h3 p' hp')
        rw [← h2]
        exact List.mem_flatten.mpr ⟨p', hp', hc⟩
/-- every node of a term is a term's -/
theorem PsR_sub {m : PM} {ct : Nat} {w : Int} {R R' : Int → List Cd → Prop} (hR : ∀ x p, R x p → ∀ i : Nat, i < p.length → ∃ q, R' (x + i) q ∧ i + q.length ≤ p.length) : ∀ (ps : List (List Cd)) (j : Nat) (k : Int), PsR R m ct w j k ps → ∀ i : Nat, i < ps.flatten.length → ∃ q, R' (k + i) q ∧ i + q.length ≤ ps.flatten.length := by
  intro ps
  induction ps with
  | nil => intro j k _ i hi; exact absurd hi (Nat.not_lt_zero i)
  | cons p ps ih =>
    intro j k h i hi
    obtain ⟨h1, h2, h3⟩ := h
    rw [List.flatten_cons, List.length_append] at hi ⊢
    by_cases q : i < p.length
    · obtain ⟨r, r1, r2⟩ := hR k p h2 i q
      exact ⟨r, r1, by omega⟩
    · obtain ⟨r, r1, r2⟩ := ih (j + 1) (k + p.length) h3 (i - p.length) (by omega)
      refine ⟨r, ?_, by omega⟩
      have e : k + (p.length : Int) + ((i - p.length : Nat) : Int) = k + (i : Int) := by omega
      rw [e] at r1
      exact r1
theorem TmR_sub {m : PM} : ∀ (f : Nat) (k : Int) (cs : List Cd), TmR f m k cs → ∀ i : Nat, i < cs.length → ∃ q, TmR f m (k + i) q ∧ i + q.length ≤ cs.length := by
  intro f
  induction f with
  | zero => intro k cs h; exact absurd h (fun z => z)
  | succ f ih =>
    intro k cs h i hi
    cases i with
    | zero =>
      refine ⟨cs, ?_, by omega⟩
      rw [show k + ((0 : Nat) : Int) = k by omega]
      exact h
    | succ i =>
      cases cs with
      | nil => exact absurd hi (Nat.not_lt_zero _)
      | cons c rest =>
        obtain ⟨a, w⟩ := c
        by_cases q : 5 ≤ a
        · rw [((TmR_v q).mp h).1] at hi
          exact absurd hi (by show ¬ i + 1 < 1; omega)
        · obtain ⟨ps, h1, h2, h3, h4, h5, h6, h7⟩ := (TmR_n q).mp h
          have hi' : i < ps.flatten.length := by
            rw [h2]
            have : i + 1 < rest.length + 1 := hi
            omega
          obtain ⟨r, r1, r2⟩ := PsR_sub (R' := TmR f m) (fun x p hx => ih x p hx) ps 0 (k + 1) h7 i hi'
          refine ⟨r, ?_, ?_⟩
          · rw [show k + ((i + 1 : Nat) : Int) = k + 1 + (i : Int) by omega]
            exact TmR_mono f (f + 1) _ _ (by omega) r1
          · rw [h2] at r2
            show i + 1 + r.length ≤ rest.length + 1
            omega
