/-! ===== what a text's atoms, conditions and rules are ===== -/
/-- a relation's name and the terms -/
abbrev Atm : Type := List Int × List (List Cd)
/-- head; conditions: 1 an atom, 2 not, 3 distinct -/
abbrev Rul : Type := Atm × List (Nat × Atm)
noncomputable def pPa (t : Int → Int) (n : Int) (dl i : Nat) (vs : List (List Int)) (w : List Int) (mn mx : Nat) : Rd Atm := match pPs (tK t n) (pT t n dl) mn mx i vs [] with
  | .inl x => .inl x
  | .inr (ps, i', vs') => .inr ((w, ps), i', vs')
/-- an atom; dl: how many parentheses more there may be in its own -/
noncomputable def pAt (t : Int → Int) (n : Int) (dl i : Nat) (vs : List (List Int)) : Rd Atm :=
  if pln t n i then .inr ((tW t n i, []), i + 1, vs) else if tK t n i = 1 then (if pln t n (i + 1) then pPa t n dl (i + 2) vs (tW t n (i + 1)) 1 4 else .inl (i + 1)) else .inl i
/-- a condition -/
noncomputable def pCo (t : Int → Int) (n : Int) (i : Nat) (vs : List (List Int)) : Rd (Nat × Atm) :=
  if tK t n i = 1 ∧ tK t n (i + 1) = 3 ∧ tW t n (i + 1) = wdL.getD 0 [] then (match pAt t n 7 (i + 2) vs with
    | .inl x => .inl x
    | .inr (a, i', vs') => if tK t n i' = 2 then .inr ((2, a), i' + 1, vs') else .inl i')
  else if tK t n i = 1 ∧ tK t n (i + 1) = 3 ∧ tW t n (i + 1) = wdL.getD 1 [] then (match pPa t n 8 (i + 2) vs [] 2 2 with
    | .inl x => .inl x
    | .inr (a, i', vs') => .inr ((3, a), i', vs'))
  else match pAt t n 8 i vs with
    | .inl x => .inl x
    | .inr (a, i', vs') => .inr ((1, a), i', vs')
/-- conditions up to a closing parenthesis, r at most -/
noncomputable def pCs (t : Int → Int) (n : Int) : Nat → Nat → List (List Int) → List (Nat × Atm) → Rd (List (Nat × Atm))
  | 0, i, vs, acc => if tK t n i = 2 then .inr (acc, i + 1, vs) else .inl i
  | r + 1, i, vs, acc => if tK t n i = 2 then .inr (acc, i + 1, vs) else match pCo t n i vs with
    | .inl x => .inl x
    | .inr (c, i', vs') => pCs t n r i' vs' (acc ++ [c])
/-- a rule -/
noncomputable def pRu (t : Int → Int) (n : Int) (i : Nat) : Nat ⊕ (Rul × Nat) :=
  if tK t n i = 1 ∧ tK t n (i + 1) = 5 then (match pAt t n 8 (i + 2) [] with
    | .inl x => .inl x
    | .inr (h, i', vs') => match pCs t n 8 i' vs' [] with
      | .inl x => .inl x
      | .inr (cs, i'', _) => .inr ((h, cs), i''))
  else match pAt t n 9 i [] with
    | .inl x => .inl x
    | .inr (h, i', _) => .inr ((h, []), i')
/-- rules up to the text's end, r at most -/
noncomputable def pSh (t : Int → Int) (n : Int) : Nat → Nat → List Rul → Nat ⊕ List Rul
  | 0, i, acc => if tK t n i = 0 ∧ ¬ acc = [] then .inr acc else .inl i
  | r + 1, i, acc => if tK t n i = 0 ∧ ¬ acc = [] then .inr acc else match pRu t n i with
    | .inl x => .inl x
    | .inr (ru, i') => pSh t n r i' (acc ++ [ru])
/-- atom a of the memory is this one; its nodes lie below nd -/
def AtR (m : PM) (a : Int) (at_ : Atm) (d : Bool) (nd : Int) : Prop := (if d then m 135 a = -1 else nX m (m 135 a) at_.1) ∧ at_.2.length ≤ 4 ∧ m 137 a = (at_.2.length : Int) ∧ ∃ k0, 0 ≤ k0 ∧ k0 + (at_.2.flatten.length : Int) ≤ nd ∧ PsR (TmR 11 m) m 136 a 0 k0 at_.2
theorem TmR_mono {m : PM} : ∀ (f f' : Nat) (k : Int) (cs : List Cd), f ≤ f' → TmR f m k cs → TmR f' m k cs := by
  intro f
  induction f with
  | zero => intro f' k cs _ h; exact absurd h (fun z => z)
  | succ f ih =>
    intro f' k cs hf h
    obtain ⟨f', rfl⟩ : ∃ g, f' = g + 1 := ⟨f' - 1, by omega⟩
    cases cs with
    | nil => exact h
    | cons c rest =>
      obtain ⟨a, w⟩ := c
      unfold TmR at h ⊢
      simp only at h ⊢
      split
      · rename_i q
        rw [if_pos q] at h
        exact h
      · rename_i q
        rw [if_neg q] at h
        obtain ⟨ps, e1, e2, e3, e4, e5, e6, e7⟩ := h
        exact ⟨ps, e1, e2, e3, e4, e5, e6, PsR_cg ps 0 (k + 1) (fun _ _ _ => rfl) (fun x p _ _ hR => ih f' x p (by omega) hR) e7⟩
theorem AtR_cg {m m' : PM} {a : Int} {at_ : Atm} {d : Bool} {nd nd' : Int} (hX : ∀ x u, nX m x u → nX m' x u) (hnd : nd ≤ nd') (h5 : m' 135 a = m 135 a) (h7 : m' 137 a = m 137 a) (h6 : ∀ j, 4 * a ≤ j → j < 4 * a + (at_.2.length : Int) → m' 136 j = m 136 j) (hn : ∀ j, 0 ≤ j → j < nd → m' 138 j = m 138 j ∧ m' 139 j = m 139 j ∧ m' 140 j = m 140 j ∧ m' 142 j = m 142 j) (hn4 : ∀ j, 0 ≤ j → j < 4 * nd → m' 141 j = m 141 j) (h : AtR m a at_ d nd) : AtR m' a at_ d nd' := by
  obtain ⟨b1, b0, b2, k0, b3, b4, b5⟩ := h
  refine ⟨?_, b0, by rw [h7]; exact b2, k0, b3, by omega, ?_⟩
  · rw [h5]
    cases d with
    | true => exact b1
    | false => exact hX _ _ b1
  · refine PsR_cg at_.2 0 k0 (fun j _ hj => h6 _ (by omega) (by omega)) (fun x p hx hp hR => ?_) b5
    exact TmR_cg hX 11 x p (fun j j1 j2 => hn j (by omega) (by omega)) (fun j j1 j2 => hn4 j (by omega) (by omega)) hR
/-- where reading an atom, or what belongs to a rule, may write -/
abbrev SA (nd o A C R : Int) (c : Nat) (j : Int) : Prop := (c = 125 ∧ (j = 9 ∨ j = 15 ∨ j = 18 ∨ j = 22 ∨ j = 28 ∨ j = 29 ∨ j = 30 ∨ j = 31 ∨ j = 34 ∨ j = 38)) ∨ c = 129 ∨ c = 130 ∨ c = 146 ∨ ((c = 138 ∨ c = 139 ∨ c = 140 ∨ c = 142) ∧ nd ≤ j) ∨ (c = 141 ∧ 4 * nd ≤ j) ∨ ((c = 143 ∨ c = 144 ∨ c = 145) ∧ o ≤ j) ∨ (c = 131 ∧ j = R - 1) ∨ (c = 132 ∧ j = R) ∨ ((c = 133 ∨ c = 134) ∧ C ≤ j) ∨ ((c = 135 ∨ c = 137) ∧ A ≤ j) ∨ (c = 136 ∧ 4 * A ≤ j)
theorem SA_mono {nd o A C R nd' o' A' C' : Int} {c : Nat} {j : Int} (h1 : nd ≤ nd') (h2 : o ≤ o') (h3 : A ≤ A') (h4 : C ≤ C') (h : ¬ SA nd o A C R c j) : ¬ SA nd' o' A' C' R c j := by
  intro z
  apply h
  clear h
  rcases z with z | z | z | z | ⟨z1, z2⟩ | ⟨z1, z2⟩ | ⟨z1, z2⟩ | z | z | ⟨z1, z2⟩ | ⟨z1, z2⟩ | ⟨z1, z2⟩
  · exact Or.inl z
  · exact Or.inr (Or.inl z)
  · exact Or.inr (Or.inr (Or.inl z))
  · exact Or.inr (Or.inr (Or.inr (Or.inl z)))
  · exact Or.inr (Or.inr (Or.inr (Or.inr (Or.inl ⟨z1, by omega⟩))))
  · exact Or.inr (Or.inr (Or.inr (Or.inr (Or.inr (Or.inl ⟨z1, by omega⟩)))))
  · exact Or.inr (Or.inr (Or.inr (Or.inr (Or.inr (Or.inr (Or.inl ⟨z1, by omega⟩))))))
  · exact Or.inr (Or.inr (Or.inr (Or.inr (Or.inr (Or.inr (Or.inr (Or.inl z)))))))
  · exact Or.inr (Or.inr (Or.inr (Or.inr (Or.inr (Or.inr (Or.inr (Or.inr (Or.inl z))))))))
  · exact Or.inr (Or.inr (Or.inr (Or.inr (Or.inr (Or.inr (Or.inr (Or.inr (Or.inr (Or.inl ⟨z1, by omega⟩)))))))))
  · exact Or.inr (Or.inr (Or.inr (Or.inr (Or.inr (Or.inr (Or.inr (Or.inr (Or.inr (Or.inr (Or.inl ⟨z1, by omega⟩))))))))))
  · exact Or.inr (Or.inr (Or.inr (Or.inr (Or.inr (Or.inr (Or.inr (Or.inr (Or.inr (Or.inr (Or.inr ⟨z1, by omega⟩))))))))))
theorem SPl_SA {nd o A C R : Int} {c : Nat} {j : Int} (ho : 1 ≤ o) (h : ¬ SA nd (o - 1) A C R c j) : ¬ SPl nd o A 136 137 c j := by
  intro z
  apply h
  clear h
  rcases z with z | z | z | z | z | z | ⟨z1, z2⟩ | ⟨z1, z2⟩ | ⟨z1, z2, z3⟩ | ⟨z1, z2⟩
  · exact Or.inl ⟨z.1, by omega⟩
  · exact Or.inr (Or.inl z)
  · exact Or.inr (Or.inr (Or.inl z))
  · exact Or.inr (Or.inr (Or.inr (Or.inl z)))
  · exact Or.inr (Or.inr (Or.inr (Or.inr (Or.inl z))))
  · exact Or.inr (Or.inr (Or.inr (Or.inr (Or.inr (Or.inl z)))))
  · exact Or.inr (Or.inr (Or.inr (Or.inr (Or.inr (Or.inr (Or.inl ⟨z1, by omega⟩))))))
  · exact Or.inr (Or.inr (Or.inr (Or.inr (Or.inr (Or.inr (Or.inl ⟨Or.inr (Or.inl z1), by omega⟩))))))
  · exact Or.inr (Or.inr (Or.inr (Or.inr (Or.inr (Or.inr (Or.inr (Or.inr (Or.inr (Or.inr (Or.inr ⟨z1, by omega⟩))))))))))
  · exact Or.inr (Or.inr (Or.inr (Or.inr (Or.inr (Or.inr (Or.inr (Or.inr (Or.inr (Or.inr (Or.inl ⟨Or.inr z1, by omega⟩))))))))))
