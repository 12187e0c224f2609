/-! ===== terms with variables set against terms without ===== -/
/-- what variables are bound to -/
def Ext (b : Nat → Option (List Cd)) (β : Nat → List Cd) : Prop := ∀ v q, b v = some q → β v = q
def bnd (b : Nat → Option (List Cd)) (v : Nat) (q : List Cd) : Nat → Option (List Cd) := fun v' => if v' = v then some q else b v'
theorem bnd_s (b : Nat → Option (List Cd)) (v : Nat) (q : List Cd) : bnd b v q v = some q := if_pos rfl
theorem bnd_o (b : Nat → Option (List Cd)) {v v' : Nat} (q : List Cd) (h : ¬ v' = v) : bnd b v q v' = b v' := if_neg h
theorem Ext_bnd {b : Nat → Option (List Cd)} {β : Nat → List Cd} {v : Nat} {q : List Cd} (h : b v = none) : Ext (bnd b v q) β ↔ (Ext b β ∧ β v = q) := by
  constructor
  · intro he
    refine ⟨fun v' q' e => he v' q' ?_, he v q (bnd_s b v q)⟩
    rw [bnd_o b q (fun z => by rw [z, h] at e; cases e)]
    exact e
  · rintro ⟨h1, h2⟩ v' q' e
    by_cases z : v' = v
    · rw [z, bnd_s] at e
      rw [z, h2]
      exact Option.some.inj e
    · rw [bnd_o b q z] at e
      exact h1 v' q' e
/-- a name with parts against another -/
theorem mt_name {β : Nat → List Cd} (hβ : Gb β) {f g : Nat} {ps qs : List (List Cd)} {w w' : List Int} (hp : ∀ p, p ∈ ps → wfS f p) (hq : ∀ q, q ∈ qs → wfS g q) (hl : ps.length ≤ 4) : sbC β ((ps.length, w) :: ps.flatten) = (qs.length, w') :: qs.flatten ↔ (w = w' ∧ ps.length = qs.length ∧ ∀ k, k < ps.length → sbC β (ps.getD k []) = qs.getD k []) := by
  rw [sbC_name β hl]
  obtain ⟨⟨h, hw⟩, _⟩ := hβ
  constructor
  · intro e
    have e0 := List.cons.inj e
    have el : (ps.map (sbC β)).length = qs.length := congrArg Prod.fst e0.1
    have ew : w = w' := congrArg Prod.snd e0.1
    have el2 : ps.length = qs.length := by rw [List.length_map] at el; exact el
    have ep : ps.map (sbC β) = qs := (wfS_list (wfS_pre (f + h + g)) _ qs [] [] el (fun p hp' => by
      obtain ⟨r, r1, r2⟩ := List.mem_map.mp hp'
      rw [← r2]
      exact wfS_mono _ _ _ (by omega) (sbC_wf f r (fun c _ _ => hw _) (hp r r1))) (fun p hp' => wfS_mono _ _ _ (by omega) (hq p hp')) (by rw [List.append_nil, List.append_nil]; exact e0.2)).1
    refine ⟨ew, el2, fun k hk => ?_⟩
    rw [← map_gD hk, ep]
  · rintro ⟨h1, h2, h3⟩
    have ep : ps.map (sbC β) = qs := ext_gD2 (by rw [List.length_map]; exact h2) fun k hk => by
      rw [List.length_map] at hk
      rw [map_gD hk]
      exact h3 k hk
    rw [ep, h1]
/-- the first pairs of parts -/
def kz (ps qs : List (List Cd)) (k : Nat) : List (List Cd × List Cd) := (List.range k).map fun i => (ps.getD i [], qs.getD i [])
theorem kz_s (ps qs : List (List Cd)) (k : Nat) : kz ps qs (k + 1) = kz ps qs k ++ [(ps.getD k [], qs.getD k [])] := by
  unfold kz
  rw [List.range_succ, List.map_append]
  rfl
theorem kz_m {ps qs : List (List Cd)} {k : Nat} {p : List Cd × List Cd} : p ∈ kz ps qs k ↔ ∃ i, i < k ∧ p = (ps.getD i [], qs.getD i []) := by
  unfold kz
  rw [List.mem_map]
  constructor
  · rintro ⟨i, h1, h2⟩
    exact ⟨i, List.mem_range.mp h1, h2.symm⟩
  · rintro ⟨i, h1, h2⟩
    exact ⟨i, List.mem_range.mpr h1, h2.symm⟩
theorem kz_l (ps qs : List (List Cd)) (k : Nat) : (kz ps qs k).length = k := by
  unfold kz
  rw [List.length_map, List.length_range]
/-- how many codes there are on a pile -/
def plz : List (List Cd × List Cd) → Nat
  | [] => 0
  | p :: L => p.1.length + plz L
theorem plz_app : ∀ (L L' : List (List Cd × List Cd)), plz (L ++ L') = plz L + plz L' := by
  intro L L'
  induction L with
  | nil => exact (Nat.zero_add _).symm
  | cons p L ih =>
    show p.1.length + plz (L ++ L') = p.1.length + plz L + plz L'
    omega
theorem plz_kz {ps qs : List (List Cd)} : ∀ k, k ≤ ps.length → plz (kz ps qs k) = (ps.take k).flatten.length := by
  intro k
  induction k with
  | zero => intro _; rfl
  | succ k ih =>
    intro hk
    rw [kz_s, plz_app, ih (by omega), take_p (by omega), List.flatten_append, List.length_append]
    simp [plz]
theorem plz_ge : ∀ L : List (List Cd × List Cd), (∀ p, p ∈ L → 1 ≤ p.1.length) → L.length ≤ plz L := by
  intro L
  induction L with
  | nil => intro _; exact Nat.le_refl _
  | cons p L ih =>
    intro h
    have a := h p List.mem_cons_self
    have b := ih (fun q hq => h q (List.mem_cons_of_mem _ hq))
    show L.length + 1 ≤ p.1.length + plz L
    omega
