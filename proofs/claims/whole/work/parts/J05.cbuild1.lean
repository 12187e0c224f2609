/-! ===== the class's model: build ===== -/
section CBU0
variable {d : Nat} {μ : am_Mem} {m l : PM} {Q : Option Value ⊕ Nat → am_Mem → Prop} {x : Int} {T q N P S a : Nat} {X : Int → List Int → Prop}
/-- a term is made of a name and parts -/
theorem k_tmk2 (H : CS μ) (TS_ : TS μ q N P S) (hq : TQ q N P S) (ha : a = 23 ∨ a = 43) (h0 : am_F μ 84 0 = a) (hX : XP X) (hI : CtT X q N S m T) (hT : T < N) {w : List Int} (hx : X x w) (hx2 : x < 1024) (hw : m (a + 3) (x + 1) - m (a + 3) x = (w.length : Int)) {ps : List (List Cd)} (hl : ps.length ≤ 4) (hps : ∀ k : Nat, k < ps.length → ∃ u : Nat, m 93 k = (u : Int) ∧ u < T ∧ Cg X q m u (ps.getD k []))
    (hk : ∀ (m' : PM) (T' t : Nat), T ≤ T' → T' ≤ T + 1 → (T' = T ∨ t = T) → t < T' → CtT X q N S m' T' → Cg X q m' t ((ps.length, w) :: ps.flatten) → (∀ c j, ¬ WCt q T c j → m' c j = m c j) → Q (.inl (some (.int (zI (t : Int))))) (sA μ m' l)) :
    Wp d 91 (0, [some (.ref 84), some (.int (zI x)), some (.int (zI (ps.length : Int))), none, none, none, none, none], [], sA μ m l) Q := by
  have hx0 := (hX.1 _ _ hx).1
  have row : ∀ k : Nat, k < ps.length → 0 ≤ m 93 k ∧ m 93 k < (T : Int) := fun k hk => by
    obtain ⟨u, e1, e2, _⟩ := hps k hk
    omega
  refine k_tint H TS_ hq ha h0 hI.1 hT ⟨hx0, hx2⟩ hl row (fun t ht hc => ?_) (fun hno m' hI' hc hL hf => ?_)
  · refine hk m T t (Nat.le_refl _) (by omega) (Or.inl rfl) ht hI ?_ (fun _ _ _ => rfl)
    obtain ⟨c1, c2, c3⟩ := hc
    rw [sl_len] at c2 c3
    have c3' := (sl_eq.mp c3).2
    have har := (hI.1.2.2.1 t ht).2.2.1
    refine Cg_mk hl (by rw [c1]; exact hx) c2 (fun k hk => ?_)
    obtain ⟨u, e1, e2, e3⟩ := hps k hk
    have ek : m (q + 2) (4 * (t : Int) + k) = (u : Int) := by
      rw [c3' k hk, ← e1]
      congr 1
      omega
    have := har k (by omega)
    exact ⟨u, ek, by omega, e3⟩
  · have old : ∀ t : Nat, t < T → m' q t = m q t ∧ m' (q + 1) t = m (q + 1) t ∧ ∀ j : Nat, j < 4 → m' (q + 2) (4 * (t : Int) + j) = m (q + 2) (4 * (t : Int) + j) := fun t ht => ⟨hf _ _ (by omega), hf _ _ (by omega), fun j hj => hf _ _ (by omega)⟩
    have old3 : ∀ t : Nat, t < T → m' (q + 3) t = m (q + 3) t := fun t ht => hf _ _ (by omega)
    have tg : ∀ (t : Nat) (cs : List Cd), t < T → Cg X q m t cs → Cg X q m' t cs := fun t cs ht h => CgR_cg old _ t cs ht h
    have new : Cg X q m' T ((ps.length, w) :: ps.flatten) := by
      obtain ⟨c1, c2, c3⟩ := id hc
      rw [sl_len] at c2 c3
      have c3' := (sl_eq.mp c3).2
      refine Cg_mk hl (by rw [c1]; exact hx) c2 (fun k hk => ?_)
      obtain ⟨u, e1, e2, e3⟩ := hps k hk
      refine ⟨u, ?_, e2, tg u _ e2 e3⟩
      rw [c3' k hk, ← e1]
      congr 1
      omega
    refine hk m' (T + 1) T (by omega) (Nat.le_refl _) (Or.inr rfl) (by omega) ⟨hI', fun t t' y us ht ht' A B => ?_, fun t ht => ?_⟩ new hf
    · have back : ∀ t : Nat, t < T → isC q m' t y us → isC q m t y us := fun t ht h => isC_fr (old t ht).1 (old t ht).2.1 (old t ht).2.2 (hI.1.2.2.1 t ht).2.1.2 h
      by_cases z : t = T
      · by_cases z' : t' = T
        · omega
        · rw [z] at A
          obtain ⟨y1, y2⟩ := isC_det A hc
          rw [y1, y2] at B
          have B' : isC q m' t' x (sl (m 93) 0 ps.length) := B
          exact absurd (isC_fr (old t' (by omega)).1 (old t' (by omega)).2.1 (old t' (by omega)).2.2 (hI.1.2.2.1 t' (by omega)).2.1.2 B') (hno t' (by omega))
      · by_cases z' : t' = T
        · rw [z'] at B
          obtain ⟨y1, y2⟩ := isC_det B hc
          rw [y1, y2] at A
          have A' : isC q m' t x (sl (m 93) 0 ps.length) := A
          exact absurd (isC_fr (old t (by omega)).1 (old t (by omega)).2.1 (old t (by omega)).2.2 (hI.1.2.2.1 t (by omega)).2.1.2 A') (hno t (by omega))
        · exact hI.2.1 t t' y us (by omega) (by omega) (back t (by omega) A) (back t' (by omega) B)
    · by_cases z : t = T
      · refine ⟨_, by rw [z]; exact new, ?_⟩
        rw [z, hL, hw, plC_tl hX hI.2.2 hps ps.length (Nat.le_refl _), List.take_length]
        unfold tlC
        rw [List.map_cons, List.sum_cons]
        show _ = ((w.length : Int) + (if ps.length = 0 then 0 else 2 + (ps.length : Int))) + _
        by_cases n0 : ps.length = 0
        · rw [if_pos n0, if_neg (by omega)]
        · rw [if_neg n0, if_pos (by omega)]
      · obtain ⟨cs, a1, a2⟩ := hI.2.2 t (by omega)
        exact ⟨cs, tg t cs (by omega) a1, by rw [old3 t (by omega)]; exact a2⟩
end CBU0
/-- what the bindings are, by numbers of terms -/
def BdC (X : Int → List Int → Prop) (q : Nat) (m : PM) (T : Nat) (b : Nat → Option (List Cd)) : Prop := ∀ v cs, b v = some cs → v < 8 ∧ ∃ u : Nat, m 83 (v : Int) = (u : Int) ∧ u < T ∧ Cg X q m u cs
/-- all variables of a term are bound -/
def bdC (b : Nat → Option (List Cd)) (cs : List Cd) : Prop := ∀ c, c ∈ cs → 5 ≤ c.1 → ∃ p, b (c.1 - 5) = some p
/-- what making terms writes, from T on -/
abbrev WMk (q T : Nat) (c : Nat) (j : Int) : Prop := c = 93 ∨ ((c = q ∨ c = q + 1 ∨ c = q + 3 ∨ c = q + 4 ∨ c = q + 5) ∧ (T : Int) ≤ j) ∨ (c = q + 2 ∧ 4 * (T : Int) ≤ j) ∨ c = q + 7 ∨ (c = 84 ∧ j = 9)
abbrev WBd (q T : Nat) (c : Nat) (j : Int) : Prop := c = 79 ∨ c = 82 ∨ WMk q T c j
section CBU
variable {q N P S s T : Nat}
theorem wb_s (hq : TQ q N P S) (hs : s = 22 ∨ s = 42) {c : Nat} {j : Int} (h1 : s ≤ c) (h2 : c ≤ s + 19) : ¬ WBd q T c j := by omega
theorem wb_83 (hq : TQ q N P S) {j : Int} : ¬ WBd q T 83 j := by omega
theorem wb_81 (hq : TQ q N P S) {j : Int} : ¬ WBd q T 81 j := by omega
theorem wb_ct {T' c : Nat} {j : Int} (hT : T ≤ T') (h : ¬ WMk q T c j) : ¬ WCt q T' c j := by omega
theorem wb_tm (hq : TQ q N P S) {t : Nat} (ht : t < T) : ¬ WBd q T q t ∧ ¬ WBd q T (q + 1) t ∧ ∀ k : Nat, k < 4 → ¬ WBd q T (q + 2) (4 * (t : Int) + k) := by
  refine ⟨by omega, by omega, fun k hk => by omega⟩
theorem wc_tm (hq : TQ q N P S) {t : Nat} (ht : t < T) : ¬ WCt q T q t ∧ ¬ WCt q T (q + 1) t ∧ ∀ k : Nat, k < 4 → ¬ WCt q T (q + 2) (4 * (t : Int) + k) := by
  refine ⟨by omega, by omega, fun k hk => by omega⟩
theorem q_82 (hq : TQ q N P S) : ¬ q = 82 ∧ ¬ q + 1 = 82 ∧ ¬ q + 2 = 82 ∧ ¬ q = 79 ∧ ¬ q + 1 = 79 ∧ ¬ q + 2 = 79 ∧ ¬ q = 93 ∧ ¬ q + 1 = 93 ∧ ¬ q + 2 = 93 := by omega
theorem wc_82 (hq : TQ q N P S) {j : Int} : ¬ WCt q T 82 j := by omega
theorem q_in (hq : TQ q N P S) {c : Nat} {j : Int} (h : (q ≤ c ∧ c ≤ q + 7) ∨ (c = 84 ∧ j = 9)) : ¬ c = 82 ∧ ¬ c = 79 ∧ ¬ c = 93 := by omega
end CBU
section CBV
variable {d : Nat} {μ : am_Mem} {l : PM} {Q : Option Value ⊕ Nat → am_Mem → Prop} {X : Int → List Int → Prop} {q N P S s : Nat}
theorem Cg_wb (hq : TQ q N P S) {m m' : PM} {T u : Nat} {cs : List Cd} (k : ∀ c j, ¬ WBd q T c j → m' c j = m c j) (hu : u < T) (h : Cg X q m u cs) : Cg X q m' u cs := CgR_cg (T := T) (fun t ht => ⟨k _ _ (wb_tm hq ht).1, k _ _ (wb_tm hq ht).2.1, fun i hi => k _ _ ((wb_tm hq ht).2.2 i hi)⟩) _ u _ hu h
/-- a subterm of what is there is there -/
theorem Cg_part {m : PM} {T u : Nat} {w : List Int} {ps : List (List Cd)} {β : Nat → List Cd} {f : Nat} (hl : ps.length ≤ 4) (hw : ∀ p, p ∈ ps → wfS f (sbC β p)) (hu : u < T) (h : Cg X q m u (sbC β ((ps.length, w) :: ps.flatten))) : ∀ p, p ∈ ps → ∃ u' : Nat, u' < T ∧ Cg X q m u' (sbC β p) := by
  intro p hp
  rw [sbC_name β hl] at h
  obtain ⟨h1, h2, h3⟩ := Cg_un (f := f) (fun p' hp' => by
    obtain ⟨p0, g1, g2⟩ := List.mem_map.mp hp'
    rw [← g2]
    exact hw p0 g1) h
  obtain ⟨i, hi, e⟩ := mem_gD2 hp
  obtain ⟨u', g1, g2, g3⟩ := h3 i (by rw [List.length_map]; exact hi)
  refine ⟨u', by omega, ?_⟩
  have e2 : (ps.map (sbC β)).getD i [] = sbC β p := by
    rw [← e, List.getD_eq_getElem?_getD, List.getElem?_map, List.getElem?_eq_getElem hi, List.getD_eq_getElem?_getD, List.getElem?_eq_getElem hi]
    rfl
  rw [e2] at g3
  exact g3
end CBV
