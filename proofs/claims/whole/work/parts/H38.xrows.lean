/-! ===== the reference: the rows of exploring ===== -/
/-- the sheet, its roles, and what rows must be -/
def BsR (W : Int → Nat) (rs : List Rul) (L : List (List Cd)) (m : PM) : Prop := RV m rs ∧ (∀ x w, nX m x w → W x = wdt rs w) ∧ (∀ j, iR (m 151 j)) ∧ (∀ j, iR (m 165 j)) ∧ RlR m L
theorem BsR_of {W : Int → Nat} {rs : List Rul} {L : List (List Cd)} {m m' : PM} (h : BsR W rs L m) (r1 : ∀ j, iR (m' 151 j)) (r5 : ∀ j, iR (m' 165 j)) (k : ∀ c j, (SRr c j ∨ c = 170 ∨ (c = 125 ∧ j = 70) ∨ (c = 125 ∧ j = 71)) → m' c j = m c j) : BsR W rs L m' := by
  obtain ⟨h1, h2, h3, h4, h5, h6, h7, h8⟩ := h
  refine ⟨RV_cg2 (fun c j z => k c j (Or.inl z)) h1, fun x w hx => h2 x w (nX_cg (k _ _ (by omega)).symm (fun i => (k _ _ (by omega)).symm) (fun i => (k _ _ (by omega)).symm) hx), r1, r5, by rw [k _ _ (by omega)]; exact h5, h6, h7, fun r hr => ?_⟩
  obtain ⟨a1, a2, a3, a4⟩ := h8 r hr
  exact ⟨fun i hi => by rw [k _ _ (by omega)]; exact a1 i hi, GdT_cg (k _ _ (by omega)) (fun i => k _ _ (by omega)) (fun i => k _ _ (by omega)) a2, a3, a4⟩
theorem BsR_cg {W : Int → Nat} {rs : List Rul} {L : List (List Cd)} {m m' : PM} (h : BsR W rs L m) (k : ∀ c j, (SRr c j ∨ c = 170 ∨ c = 151 ∨ c = 165 ∨ (c = 125 ∧ j = 70) ∨ (c = 125 ∧ j = 71)) → m' c j = m c j) : BsR W rs L m' := BsR_of h (fun j => by rw [k _ _ (by omega)]; exact h.2.2.1 j) (fun j => by rw [k _ _ (by omega)]; exact h.2.2.2.1 j) (fun c j z => k c j (by omega))
/-- what is told of state i -/
def InR (rs : List Rul) (L : List (List Cd)) (m : PM) (i : Nat) (st : List (List Cd)) : Prop := m 177 (i : Int) = bP (ovO rs L st) ∧ ∀ r : Nat, r < 2 → m 180 (2 * (i : Int) + (r : Int)) = glX rs L st r ∧ m 181 (2 * (i : Int) + (r : Int)) = (mnX rs L st r : Int) ∧ mnX rs L st r ≤ 1000
/-- the numbers of the states behind state i -/
def NxR (m : PM) (i : Nat) (ns : List Nat) : Prop := ∀ j : Nat, j < ns.length → m 179 (40 * (i : Int) + (j : Int)) = (ns.getD j 0 : Int)
def XpR (rs : List Rul) (L : List (List Cd)) (m : PM) (sts : List (List (List Cd))) (nx : List (List Nat)) : Prop :=
  (m 125 83 = (sts.length : Int) ∧ sts.length ≤ 300 ∧ nx.length ≤ sts.length) ∧ (∀ i : Nat, i < sts.length → StR m (i : Int) (sts.getD i [])) ∧ ∀ i : Nat, i < nx.length → InR rs L m i (sts.getD i []) ∧ (m 178 (i : Int) = ((nx.getD i []).length : Int) ∧ (nx.getD i []).length ≤ 40 ∧ (nx.getD i []).length = jmO rs L (sts.getD i [])) ∧ NxR m i (nx.getD i []) ∧ ∀ x, x ∈ nx.getD i [] → x < sts.length
/-- where they stand: n states told -/
abbrev XFr (n : Nat) (c : Nat) (j : Int) : Prop := (c = 171 ∧ j < 882000) ∨ (c = 172 ∧ j < 300) ∨ ((c = 177 ∨ c = 178) ∧ j < (n : Int)) ∨ (c = 179 ∧ j < 40 * (n : Int)) ∨ ((c = 180 ∨ c = 181) ∧ j < 2 * (n : Int)) ∨ c = 129 ∨ c = 130 ∨ (c = 125 ∧ (j = 9 ∨ j = 83))
theorem XpR_cg {rs : List Rul} {L : List (List Cd)} {m m' : PM} {sts : List (List (List Cd))} {nx : List (List Nat)} (k : ∀ c j, XFr nx.length c j → m' c j = m c j) (h : XpR rs L m sts nx) : XpR rs L m' sts nx := by
  obtain ⟨⟨a1, a2, a3⟩, h2, h3⟩ := h
  refine ⟨⟨by rw [k _ _ (by omega)]; exact a1, a2, a3⟩, fun i hi => StR_cg (fun c j z => k c j (by omega)) (h2 i hi), fun i hi => ?_⟩
  obtain ⟨⟨b1, b2⟩, b3, b4, b5⟩ := h3 i hi
  refine ⟨⟨by rw [k _ _ (by omega)]; exact b1, fun r hr => ?_⟩, ⟨by rw [k _ _ (by omega)]; exact b3.1, b3.2⟩, fun j hj => by rw [k _ _ (by omega)]; exact b4 j hj, b5⟩
  obtain ⟨c1, c2, c3⟩ := b2 r hr
  exact ⟨by rw [k _ _ (by omega)]; exact c1, by rw [k _ _ (by omega)]; exact c2, c3⟩
theorem gD_app {α : Type} {L M : List α} {e : α} {i : Nat} (h : i < L.length) : (L ++ M).getD i e = L.getD i e := by
  rw [List.getD_eq_getElem?_getD, List.getD_eq_getElem?_getD, List.getElem?_append_left h]
theorem gD_snX {α : Type} {L : List α} {a e : α} : (L ++ [a]).getD L.length e = a := by
  rw [List.getD_eq_getElem?_getD, List.getElem?_append_right (Nat.le_refl _), Nat.sub_self]
  rfl
/-- a state more -/
theorem XpR_add {rs : List Rul} {L : List (List Cd)} {m m' : PM} {sts : List (List (List Cd))} {nx : List (List Nat)} {s : List (List Cd)} (h : XpR rs L m sts nx) (hl : sts.length < 300) (h83 : m' 125 83 = (sts.length : Int) + 1) (hs : StR m' (sts.length : Int) s) (k : ∀ c j, ¬ ((c = 125 ∧ j = 83) ∨ (c = 172 ∧ j = (sts.length : Int)) ∨ (c = 171 ∧ 2940 * (sts.length : Int) ≤ j ∧ j < 2940 * (sts.length : Int) + 2940)) → m' c j = m c j) : XpR rs L m' (sts ++ [s]) nx := by
  obtain ⟨⟨a1, a2, a3⟩, h2, h3⟩ := h
  have hlen : (sts ++ [s]).length = sts.length + 1 := by simp
  refine ⟨⟨by rw [h83, hlen]; omega, by omega, by omega⟩, fun i hi => ?_, fun i hi => ?_⟩
  · by_cases q : i = sts.length
    · rw [q, gD_snX]
      exact hs
    · rw [gD_app (by omega)]
      exact StR_cg (fun c j z => k c j (by omega)) (h2 i (by omega))
  · obtain ⟨⟨b1, b2⟩, b3, b4, b5⟩ := h3 i hi
    rw [gD_app (by omega)]
    refine ⟨⟨by rw [k _ _ (by omega)]; exact b1, fun r hr => ?_⟩, ⟨by rw [k _ _ (by omega)]; exact b3.1, b3.2⟩, fun j hj => by rw [k _ _ (by omega)]; exact b4 j hj, fun x hx => by have := b5 x hx; omega⟩
    obtain ⟨c1, c2, c3⟩ := b2 r hr
    exact ⟨by rw [k _ _ (by omega)]; exact c1, by rw [k _ _ (by omega)]; exact c2, c3⟩
theorem adS_len {sts : List (List (List Cd))} {s : List (List Cd)} : sts.length ≤ (adS sts s).length ∧ ixS s sts < (adS sts s).length := by
  unfold adS
  by_cases q : s ∈ sts
  · rw [if_pos q]
    refine ⟨Nat.le_refl _, ?_⟩
    obtain ⟨i, hi, e⟩ := (mem_gD sts [] s).mp q
    clear q
    induction i using Nat.strongRecOn with
    | _ i ih =>
      by_cases y : ∃ k, k < i ∧ sts.getD k [] = s
      · obtain ⟨k, k1, k2⟩ := y
        exact ih k k1 (by omega) k2
      · rw [ixS_eq hi e (fun k hk z => y ⟨k, hk, z⟩)]
        exact hi
  · rw [if_neg q, ixS_no q]
    simp
theorem smR_le {S : List Atm} : ∀ {rs : List Rul}, (∀ ru, ru ∈ rs → rmA S ru ≤ 300000) → smR S rs ≤ 300000 * rs.length := by
  intro rs
  induction rs with
  | nil => intro _; exact Nat.le_refl _
  | cons ru rs ih =>
    intro h
    have h1 := h ru List.mem_cons_self
    have h2 := ih (fun r hr => h r (List.mem_cons_of_mem _ hr))
    show rmA S ru + smR S rs ≤ 300000 * (rs.length + 1)
    omega
theorem wkO_le {rs : List Rul} {B : List Atm} (hg : GoS rs) : wkO rs B ≤ 18000000 := by
  by_cases h : ∃ S, EvG rs B S
  · obtain ⟨S, hS⟩ := h
    rw [Ev_wk hg hS]
    have := smR_le hS.2.2.2.2.2.2
    have := hg.2.1
    omega
  · have e : wkO rs B = 0 := dif_neg h
    omega
theorem jmP_pos {mv : Nat → List (List Cd)} : ∀ {n : Nat}, ¬ jmP mv n = 0 → ∀ r, r < n → 0 < (mv r).length := by
  intro n
  induction n with
  | zero => intro _ r hr; exact absurd hr (Nat.not_lt_zero r)
  | succ n ih =>
    intro h r hr
    have h : ¬ jmP mv n * (mv n).length = 0 := h
    by_cases q : r = n
    · rw [q]
      exact Nat.pos_of_ne_zero (fun z => h (by rw [z, Nat.mul_zero]))
    · exact ih (fun z => h (by rw [z, Nat.zero_mul])) r (by omega)
theorem jmN_pos {mv : Nat → List (List Cd)} {n : Nat} (h : 0 < jmN n mv) : ∀ r, r < n → 0 < (mv r).length := by
  unfold jmN at h
  by_cases q : n = 0
  · rw [if_pos q] at h
    exact absurd h (Nat.lt_irrefl 0)
  · rw [if_neg q] at h
    exact jmP_pos (by omega)
theorem chI_lt {mv : Nat → List (List Cd)} : ∀ {n : Nat}, (∀ r, r < n → 0 < (mv r).length) → ∀ j r, r < n → chI mv n j r < (mv r).length := by
  intro n
  induction n with
  | zero => intro _ j r hr; exact absurd hr (Nat.not_lt_zero r)
  | succ n ih =>
    intro h j r hr
    unfold chI
    by_cases q : r = n
    · rw [if_pos q, q]
      exact Nat.mod_lt _ (h n (by omega))
    · rw [if_neg q]
      exact ih (fun r hr => h r (by omega)) _ r (by omega)
theorem jmN_le {mv : Nat → List (List Cd)} {n : Nat} (hn : n ≤ 4) (h : ∀ r, r < n → (mv r).length ≤ 1000) : jmN n mv ≤ 1000000000000 := by
  unfold jmN
  split
  · exact Nat.zero_le _
  · have h1 := jmP_le h
    have h2 : 1000 ^ n ≤ 1000 ^ 4 := Nat.pow_le_pow_right (by decide) hn
    exact Nat.le_trans h1 (Nat.le_trans h2 (by decide))
theorem chO_g {rs : List Rul} {L st : List (List Cd)} {j r : Nat} (hr : r < L.length) : (chO rs L st j).getD r [] = (mvO rs L st r).getD (chI (mvO rs L st) L.length j r) [] := by
  unfold chO
  rw [List.getD_eq_getElem?_getD, List.getElem?_map, List.getElem?_range hr]
  rfl
