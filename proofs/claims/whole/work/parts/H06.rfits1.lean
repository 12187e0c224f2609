/-! ===== the reference: a rule's term set against one without variables ===== -/
/-- the pile of nodes and terms -/
def PlR (m : PM) (T : Nat) (L : List (List Cd × List Cd)) : Prop := ∀ i : Nat, i < L.length → ∃ (k : Int) (t : Nat), m 166 i = k ∧ (0 ≤ k ∧ k + ((L.getD i ([], [])).1.length : Int) ≤ 1100) ∧ TmR 11 m k (L.getD i ([], [])).1 ∧ vbC (L.getD i ([], [])).1 ∧ m 167 i = (t : Int) ∧ t < T ∧ Tg m t (L.getD i ([], [])).2
/-- the variables' terms: b0 before this level, b now -/
def BdX (m : PM) (T : Nat) (lv : Int) (b0 b : Nat → Option (List Cd)) : Prop := ∀ v : Nat, v < 8 → (b v = none → m 164 v = -1) ∧ (∀ q, b v = some q → (0 ≤ m 164 v ∧ m 164 v ≤ lv) ∧ ∃ u : Nat, m 163 v = (u : Int) ∧ u < T ∧ Tg m u q) ∧ (∀ q, b0 v = some q → b v = some q ∧ m 164 v < lv) ∧ (b0 v = none → ¬ b v = none → m 164 v = lv)
/-- what setting a term against another writes -/
abbrev WFt (c : Nat) (j : Int) : Prop := c = 163 ∨ c = 164 ∨ c = 166 ∨ c = 167
theorem gDp_l {L : List (List Cd × List Cd)} {x : List Cd × List Cd} {i : Nat} (h : i < L.length) : (L ++ [x]).getD i ([], []) = L.getD i ([], []) := by
  rw [List.getD_eq_getElem?_getD, List.getD_eq_getElem?_getD, List.getElem?_append_left h]
theorem gDp_r {L : List (List Cd × List Cd)} {x : List Cd × List Cd} : (L ++ [x]).getD L.length ([], []) = x := by
  rw [List.getD_eq_getElem?_getD, List.getElem?_append_right (Nat.le_refl _), Nat.sub_self]
  rfl
section RF1
variable {d : Nat} {μ : am_Mem} {l : PM} {T : Nat} {x1 x2 lv : Int} {b0 : Nat → Option (List Cd)}
theorem TmR_ft {m m' : PM} (fr : ∀ c j, ¬ WFt c j → m' c j = m c j) {f : Nat} {k : Int} {cs : List Cd} (h : TmR f m k cs) : TmR f m' k cs := TmR_cg (fun x w z => nX_cg (fr _ _ (by omega)) (fun i => fr _ _ (by omega)) (fun i => fr _ _ (by omega)) z) f k cs (fun i _ _ => ⟨fr _ _ (by omega), fr _ _ (by omega), fr _ _ (by omega), fr _ _ (by omega)⟩) (fun i _ _ => fr _ _ (by omega)) h
theorem Tg_ft {m m' : PM} (fr : ∀ c j, ¬ WFt c j → m' c j = m c j) {t : Nat} {cs : List Cd} (h : Tg m t cs) : Tg m' t cs := TgR_cg (T := t + 1) (fr _ _ (by omega)) (fun i => fr _ _ (by omega)) (fun i => fr _ _ (by omega)) (fun t _ => ⟨fr _ _ (by omega), fr _ _ (by omega), fun k _ => fr _ _ (by omega)⟩) _ t cs (by omega) h
theorem PlR_cg {m m' : PM} {L : List (List Cd × List Cd)} (fr : ∀ c j, ¬ WFt c j → m' c j = m c j) (h6 : ∀ i : Nat, i < L.length → m' 166 i = m 166 i) (h7 : ∀ i : Nat, i < L.length → m' 167 i = m 167 i) (h : PlR m T L) : PlR m' T L := by
  intro i hi
  obtain ⟨k, t, a1, a2, a3, a4, a5, a6, a7⟩ := h i hi
  exact ⟨k, t, by rw [h6 i hi]; exact a1, a2, TmR_ft fr a3, a4, by rw [h7 i hi]; exact a5, a6, Tg_ft fr a7⟩
theorem PlR_snoc {m : PM} {L : List (List Cd × List Cd)} {cs q : List Cd} {k : Int} {t : Nat} (h : PlR m T L) (e6 : m 166 (L.length : Int) = k) (e7 : m 167 (L.length : Int) = (t : Int)) (hk : 0 ≤ k ∧ k + (cs.length : Int) ≤ 1100) (ht : TmR 11 m k cs) (hv : vbC cs) (hT : t < T) (hq : Tg m t q) : PlR m T (L ++ [(cs, q)]) := by
  intro i hi
  rw [List.length_append, List.length_singleton] at hi
  by_cases e : i = L.length
  · rw [e, gDp_r]
    exact ⟨k, t, e6, hk, ht, hv, e7, hT, hq⟩
  · rw [gDp_l (by omega)]
    exact h i (by omega)
theorem PlR_front {m : PM} {L : List (List Cd × List Cd)} {x : List Cd × List Cd} (h : PlR m T (L ++ [x])) : PlR m T L := by
  intro i hi
  have z := h i (by rw [List.length_append, List.length_singleton]; omega)
  rw [gDp_l hi] at z
  exact z
theorem PlR_one {m : PM} {L : List (List Cd × List Cd)} (h : PlR m T L) : ∀ p, p ∈ L → 1 ≤ p.1.length := by
  intro p hp
  obtain ⟨i, hi, e⟩ := List.getElem_of_mem hp
  obtain ⟨k, t, _, _, a3, _⟩ := h i hi
  have eg : L.getD i ([], []) = p := by rw [List.getD_eq_getElem?_getD, List.getElem?_eq_getElem hi]; exact e
  rw [eg] at a3
  exact (TmR_top a3).1
theorem BdX_cg {m m' : PM} {b : Nat → Option (List Cd)} (fr : ∀ c j, ¬ WFt c j → m' c j = m c j) (h3 : ∀ j, m' 163 j = m 163 j) (h4 : ∀ j, m' 164 j = m 164 j) (h : BdX m T lv b0 b) : BdX m' T lv b0 b := by
  intro v hv
  obtain ⟨a1, a2, a3, a4⟩ := h v hv
  rw [h4]
  refine ⟨a1, fun q e => ?_, a3, a4⟩
  obtain ⟨c1, u, c2, c3, c4⟩ := a2 q e
  exact ⟨c1, u, by rw [h3]; exact c2, c3, Tg_ft fr c4⟩
/-- the parts are laid onto the pile -/
theorem ft_137 {m0 : PM} {Q : Option Value ⊕ Nat → am_Mem → Prop} {L : List (List Cd × List Cd)} {ps qs : List (List Cd)} {k : Int} {t : Nat} {x7 : Int} (H : RS μ) (hl : ps.length ≤ 4) (hL : L.length + ps.length ≤ 1100) (hk : 0 ≤ k ∧ k < 1100) (ht : t < T) (hT : T ≤ 130000) (e140 : m0 140 k = (ps.length : Int)) (hn : ∀ i : Nat, i < ps.length → 0 ≤ m0 141 (4 * k + i) ∧ m0 141 (4 * k + i) + ((ps.getD i []).length : Int) ≤ 1100 ∧ TmR 11 m0 (m0 141 (4 * k + i)) (ps.getD i []) ∧ vbC (ps.getD i [])) (hq : ∀ i : Nat, i < ps.length → ∃ u : Nat, m0 151 (4 * (t : Int) + i) = (u : Int) ∧ u < T ∧ Tg m0 u (qs.getD i []))
    (hd : ∀ m : PM, (∀ c j, ¬ ((c = 166 ∨ c = 167) ∧ (L.length : Int) ≤ j) → m c j = m0 c j) → PlR m T (L ++ kz ps qs ps.length) → ∀ o8 : Option Value, Wp d 234 (17, [some (.ref 125), some (.int (zI x1)), some (.int (zI x2)), some (.int (zI lv)), some (.int (zI ((L.length + ps.length : Nat) : Int))), some (.int (zI k)), some (.int (zI (t : Int))), some (.int (zI x7)), o8], [], sA μ m l) Q) : ∀ (f j : Nat) (m : PM), j + f = ps.length → (∀ c j, ¬ ((c = 166 ∨ c = 167) ∧ (L.length : Int) ≤ j) → m c j = m0 c j) → PlR m T (L ++ kz ps qs j) → Wp d 234 (137, [some (.ref 125), some (.int (zI x1)), some (.int (zI x2)), some (.int (zI lv)), some (.int (zI ((L.length + j : Nat) : Int))), some (.int (zI k)), some (.int (zI (t : Int))), some (.int (zI x7)), some (.int (zI (j : Int)))], [], sA μ m l) Q := by
  intro f
  induction f with
  | zero =>
    intro j m hj fr hP
    have ej : j = ps.length := by omega
    have e : m 140 k = (ps.length : Int) := by rw [fr _ _ (by omega)]; exact e140
    refine R234_137 H ⟨hk, ⟨by omega, by omega⟩, by rw [e]; exact ⟨by omega, by omega⟩, fun _ => ?_, fun z => by omega⟩
    rw [ej] at hP ⊢
    exact hd m fr hP _
  | succ f ih =>
    intro j m hj fr hP
    have e : m 140 k = (ps.length : Int) := by rw [fr _ _ (by omega)]; exact e140
    have e141 : m 141 (4 * k + (j : Int)) = m0 141 (4 * k + (j : Int)) := fr _ _ (by omega)
    have e151 : m 151 (4 * (t : Int) + (j : Int)) = m0 151 (4 * (t : Int) + (j : Int)) := fr _ _ (by omega)
    obtain ⟨n1, n2, n3, n4⟩ := hn j (by omega)
    obtain ⟨u, u1, u2, u3⟩ := hq j (by omega)
    refine R234_137 H ⟨hk, ⟨by omega, by omega⟩, by rw [e]; exact ⟨by omega, by omega⟩, fun z => by omega, fun _ => ⟨⟨by omega, by omega⟩, ⟨by omega, by omega⟩, ⟨by omega, by omega⟩, ?_⟩⟩
    rw [e141, e151]
    rintro m1 e1
    have f1 : ∀ c i, ¬ ((c = 166 ∨ c = 167) ∧ i = ((L.length + j : Nat) : Int)) → m1 c i = m c i := fun c i z => by rw [e1, up_o (by omega), up_o (by omega)]
    have fr1 : ∀ c i, ¬ ((c = 166 ∨ c = 167) ∧ (L.length : Int) ≤ i) → m1 c i = m0 c i := fun c i z => by rw [f1 c i (by omega)]; exact fr c i z
    have hlen : (L ++ kz ps qs j).length = L.length + j := by rw [List.length_append, kz_l]
    have z := ih (j + 1) m1 (by omega) fr1 (by
      rw [kz_s, ← List.append_assoc]
      refine PlR_snoc (k := m0 141 (4 * k + (j : Int))) (t := u) (PlR_cg (fun c i z => f1 c i (by omega)) (fun i hi => f1 _ _ (by rw [hlen] at hi; omega)) (fun i hi => f1 _ _ (by rw [hlen] at hi; omega)) hP) ?_ ?_ ⟨n1, n2⟩ (TmR_ft (fun c i z => fr1 c i (by omega)) n3) n4 u2 (Tg_ft (fun c i z => fr1 c i (by omega)) u3)
      · rw [hlen, e1, up_c (by decide), up_s]
      · rw [hlen, e1, up_s, u1])
    exact z
end RF1
