/-! ===== the class's terms: a term made of its parts ===== -/
section CT4
variable {d : Nat} {μ : am_Mem} {m l : PM} {Q : Option Value ⊕ Nat → am_Mem → Prop} {x : Int} {T q N P S a : Nat} {X : Int → List Int → Prop}
theorem take_p {ps : List (List Cd)} {j : Nat} (h : j < ps.length) : ps.take (j + 1) = ps.take j ++ [ps.getD j []] := by
  rw [List.take_succ_eq_append_getElem h, List.getD_eq_getElem?_getD, List.getElem?_eq_getElem h]
  rfl
theorem plC_tl (hX : XP X) (hL : CtL X q m T) {ps : List (List Cd)} (hps : ∀ k : Nat, k < ps.length → ∃ u : Nat, m 93 k = (u : Int) ∧ u < T ∧ Cg X q m u (ps.getD k [])) : ∀ j, j ≤ ps.length → plC q m j = tlC (ps.take j).flatten := by
  intro j
  induction j with
  | zero => intro _; rfl
  | succ j ih =>
    intro hj
    obtain ⟨u, e1, e2, e3⟩ := hps j (by omega)
    obtain ⟨cs, a1, a2⟩ := hL u e2
    rw [CgR_fun hX _ _ _ _ _ a1 e3] at a2
    rw [take_p (by omega), List.flatten_append, tl_app, List.flatten_cons, List.flatten_nil, List.append_nil]
    show plC q m j + m (q + 3) (m 93 j) = _
    rw [ih (by omega), e1, a2]
theorem isC_det {t x x' : Int} {ps ps' : List Int} (h : isC q m t x ps) (h' : isC q m t x' ps') : x = x' ∧ ps = ps' := by
  have a := isC_key h
  have b := isC_key h'
  exact ⟨a.1.symm.trans b.1, a.2.symm.trans b.2⟩
/-- a term is made of a name and parts -/
theorem k_tmk (H : CS μ) (TS_ : TS μ q N P S) (hq : TQ q N P S) (ha : a = 23 ∨ a = 43) (h0 : am_F μ 84 0 = a) (hX : XP X) (hI : CtT X q N S m T) (hT : T < N) {w : List Int} (hx : X x w) (hx2 : x < 1024) (hw : m (a + 3) (x + 1) - m (a + 3) x = (w.length : Int)) {ps : List (List Cd)} (hl : ps.length ≤ 4) (hps : ∀ k : Nat, k < ps.length → ∃ u : Nat, m 93 k = (u : Int) ∧ u < T ∧ Cg X q m u (ps.getD k []))
    (hk : ∀ (m' : PM) (T' t : Nat), T ≤ T' → T' ≤ T + 1 → t < T' → CtT X q N S m' T' → Cg X q m' t ((ps.length, w) :: ps.flatten) → (∀ c j, ¬ WCt q T c j → m' c j = m c j) → Q (.inl (some (.int (zI (t : Int))))) (sA μ m' l)) :
    Wp d 91 (0, [some (.ref 84), some (.int (zI x)), some (.int (zI (ps.length : Int))), none, none, none, none, none], [], sA μ m l) Q := by
  have hx0 := (hX.1 _ _ hx).1
  have row : ∀ k : Nat, k < ps.length → 0 ≤ m 93 k ∧ m 93 k < (T : Int) := fun k hk => by
    obtain ⟨u, e1, e2, _⟩ := hps k hk
    omega
  refine k_tint H TS_ hq ha h0 hI.1 hT ⟨hx0, hx2⟩ hl row (fun t ht hc => ?_) (fun hno m' hI' hc hL hf => ?_)
  · refine hk m T t (Nat.le_refl _) (by omega) ht hI ?_ (fun _ _ _ => rfl)
    obtain ⟨c1, c2, c3⟩ := hc
    rw [sl_len] at c2 c3
    have c3' := (sl_eq.mp c3).2
    have har := (hI.1.2.2.1 t ht).2.2.1
    refine Cg_mk hl (by rw [c1]; exact hx) c2 (fun k hk => ?_)
    obtain ⟨u, e1, e2, e3⟩ := hps k hk
    have ek : m (q + 2) (4 * (t : Int) + k) = (u : Int) := by
      rw [c3' k hk, ← e1]
      congr 1
      omega
    have := har k (by omega)
    exact ⟨u, ek, by omega, e3⟩
  · have old : ∀ t : Nat, t < T → m' q t = m q t ∧ m' (q + 1) t = m (q + 1) t ∧ ∀ j : Nat, j < 4 → m' (q + 2) (4 * (t : Int) + j) = m (q + 2) (4 * (t : Int) + j) := fun t ht => ⟨hf _ _ (by omega), hf _ _ (by omega), fun j hj => hf _ _ (by omega)⟩
    have old3 : ∀ t : Nat, t < T → m' (q + 3) t = m (q + 3) t := fun t ht => hf _ _ (by omega)
    have tg : ∀ (t : Nat) (cs : List Cd), t < T → Cg X q m t cs → Cg X q m' t cs := fun t cs ht h => CgR_cg old _ t cs ht h
    have new : Cg X q m' T ((ps.length, w) :: ps.flatten) := by
      obtain ⟨c1, c2, c3⟩ := id hc
      rw [sl_len] at c2 c3
      have c3' := (sl_eq.mp c3).2
      refine Cg_mk hl (by rw [c1]; exact hx) c2 (fun k hk => ?_)
      obtain ⟨u, e1, e2, e3⟩ := hps k hk
      refine ⟨u, ?_, e2, tg u _ e2 e3⟩
      rw [c3' k hk, ← e1]
      congr 1
      omega
    refine hk m' (T + 1) T (by omega) (Nat.le_refl _) (by omega) ⟨hI', fun t t' y us ht ht' A B => ?_, fun t ht => ?_⟩ new hf
    · have back : ∀ t : Nat, t < T → isC q m' t y us → isC q m t y us := fun t ht h => isC_fr (old t ht).1 (old t ht).2.1 (old t ht).2.2 (hI.1.2.2.1 t ht).2.1.2 h
      by_cases z : t = T
      · by_cases z' : t' = T
        · omega
        · rw [z] at A
          obtain ⟨y1, y2⟩ := isC_det A hc
          rw [y1, y2] at B
          have B' : isC q m' t' x (sl (m 93) 0 ps.length) := B
          exact absurd (isC_fr (old t' (by omega)).1 (old t' (by omega)).2.1 (old t' (by omega)).2.2 (hI.1.2.2.1 t' (by omega)).2.1.2 B') (hno t' (by omega))
      · by_cases z' : t' = T
        · rw [z'] at B
          obtain ⟨y1, y2⟩ := isC_det B hc
          rw [y1, y2] at A
          have A' : isC q m' t x (sl (m 93) 0 ps.length) := A
          exact absurd (isC_fr (old t (by omega)).1 (old t (by omega)).2.1 (old t (by omega)).2.2 (hI.1.2.2.1 t (by omega)).2.1.2 A') (hno t (by omega))
        · exact hI.2.1 t t' y us (by omega) (by omega) (back t (by omega) A) (back t' (by omega) B)
    · by_cases z : t = T
      · refine ⟨_, by rw [z]; exact new, ?_⟩
        rw [z, hL, hw, plC_tl hX hI.2.2 hps ps.length (Nat.le_refl _), List.take_length]
        unfold tlC
        rw [List.map_cons, List.sum_cons]
        show _ = ((w.length : Int) + (if ps.length = 0 then 0 else 2 + (ps.length : Int))) + _
        by_cases n0 : ps.length = 0
        · rw [if_pos n0, if_neg (by omega)]
        · rw [if_neg n0, if_pos (by omega)]
      · obtain ⟨cs, a1, a2⟩ := hI.2.2 t (by omega)
        exact ⟨cs, tg t cs (by omega) a1, by rw [old3 t (by omega)]; exact a2⟩
end CT4
