/-! ===== the reference: a name in the row, a term that is put ===== -/
/-- the table of terms, and the names -/
def TbR (m : PM) (T : Nat) : Prop := TtI m T ∧ TtU m T ∧ TtL m T ∧ NmW m ∧ NmD m ∧ m 125 9 ≤ 1010
theorem TbR_cg {m m' : PM} {T : Nat} (k : ∀ c j, ((129 ≤ c ∧ c ≤ 130) ∨ ((c = 149 ∨ c = 150 ∨ c = 152) ∧ j < (T : Int)) ∨ (c = 151 ∧ j < 4 * (T : Int)) ∨ c = 153 ∨ (c = 125 ∧ (j = 9 ∨ j = 42))) → m' c j = m c j) (r : ∀ i, iR (m' 151 i)) (h : TbR m T) : TbR m' T := by
  obtain ⟨h1, h2, h3, h4, h5, h6⟩ := h
  have e9 : m' 125 9 = m 125 9 := k _ _ (by omega)
  have e129 : ∀ i, m' 129 i = m 129 i := fun i => k _ _ (by omega)
  have e130 : ∀ i, m' 130 i = m 130 i := fun i => k _ _ (by omega)
  exact ⟨TtI_cg (k _ _ (by omega)) (fun t ht => k _ _ (by omega)) (fun t ht => k _ _ (by omega)) (fun i _ _ => k _ _ (by omega)) r (fun i _ => k _ _ (by omega)) h1, TtU_cg h1 (fun t ht => k _ _ (by omega)) (fun t ht => k _ _ (by omega)) (fun i _ _ => k _ _ (by omega)) h2, TtL_cg h1 e9 e130 (fun t ht => k _ _ (by omega)) (fun t ht => k _ _ (by omega)) (fun i _ _ => k _ _ (by omega)) (fun t ht => k _ _ (by omega)) h3, NmW_cg e9 e129 e130 h4, NmD_cg e9 e129 e130 h5, by rw [e9]; exact h6⟩
section RRA
variable {d : Nat} {μ : am_Mem} {l : PM} {T : Nat} {Q : Option Value ⊕ Nat → am_Mem → Prop}
theorem c_nameInRow {m : PM} {x fr to : Int} {w : List Int} (H : RS μ) (hW : NmW m) (hD : NmD m) (h9 : m 125 9 ≤ 1010) (hx : nX m x w) (hf : 0 ≤ fr ∧ fr ≤ to ∧ to ≤ 3000) (hl : to - fr = (w.length : Int)) (hr : ∀ j : Nat, j < w.length → m 176 (fr + j) = w.getD j 0) (hR : ∀ j : Nat, j < w.length → iR (w.getD j 0)) : Wp d 216 (0, [some (.ref 125), some (.int (zI fr)), some (.int (zI to)), none, none, none], [], sA μ m l) (pI (fun y μ' => y = zI x ∧ μ' = sA μ m l) noX) := by
  obtain ⟨x1, x2, x3⟩ := id hx
  have inner : ∀ (k : Nat), (k : Int) < m 125 9 → ∀ (f j : Nat) (v : Int), j + f = w.length → v = bP (m 130 k = (w.length : Int) ∧ ∀ i : Nat, i < j → m 129 (16 * (k : Int) + i) = w.getD i 0) →
      (¬ nmR m k = w → ∀ o4 o5 : Option Value, Wp d 216 (2, [some (.ref 125), some (.int (zI fr)), some (.int (zI to)), some (.int (zI ((k : Int) + 1))), o4, o5], [], sA μ m l) (pI (fun y μ' => y = zI x ∧ μ' = sA μ m l) noX)) →
      Wp d 216 (32, [some (.ref 125), some (.int (zI fr)), some (.int (zI to)), some (.int (zI (k : Int))), some (.int (zI v)), some (.int (zI (j : Int)))], [], sA μ m l) (pI (fun y μ' => y = zI x ∧ μ' = sA μ m l) noX) := by
    intro k hk
    obtain ⟨a1, a2, a3⟩ := hW.2.2 k (by have := hW.1; omega)
    have isW : (m 130 k = (w.length : Int) ∧ ∀ i : Nat, i < w.length → m 129 (16 * (k : Int) + i) = w.getD i 0) ↔ nmR m k = w := by
      unfold nmR
      constructor
      · rintro ⟨e1, e2⟩
        refine List.ext_getElem (by rw [sl_len]; omega) fun i h1 h2 => ?_
        have z := sl_get (m 129) (16 * (k : Int)) (m 130 k).toNat i (by rw [sl_len] at h1; exact h1)
        rw [List.getD_eq_getElem?_getD, List.getElem?_eq_getElem h1] at z
        have z2 := e2 i h2
        rw [List.getD_eq_getElem?_getD, List.getElem?_eq_getElem h2] at z2
        exact z.trans z2
      · intro e
        have el : (m 130 k).toNat = w.length := by rw [← e, sl_len]
        refine ⟨by omega, fun i hi => ?_⟩
        rw [← e]
        exact (sl_get _ _ _ _ (by omega)).symm
    intro f
    induction f with
    | zero =>
      intro j v hj hv hno
      have ej : j = w.length := by omega
      have hvR : iR v := by rw [hv]; exact bP_R _
      refine R216_32 H ⟨⟨by omega, by omega⟩, ⟨by omega, by omega⟩, fun _ => ⟨hvR, fun z => ?_, fun z => ?_⟩, fun z => by omega⟩
      · rw [hv, ej] at z
        exact hno (fun y => bP_z.mp z (isW.mpr y)) _ _
      · have y : nmR m k = w := Classical.byContradiction fun y => z (by rw [hv, ej]; exact bP_0 (fun q => y (isW.mp q)))
        have e := nX_in2 hD (show nX m (k : Int) w from ⟨by omega, hk, y⟩) hx
        exact ⟨by rw [e], rfl⟩
    | succ f ih =>
      intro j v hj hv hno
      have hvR : iR v := by rw [hv]; exact bP_R _
      have no : v = 0 → ¬ nmR m k = w := fun z y => by
        rw [hv] at z
        obtain ⟨q1, q2⟩ := isW.mpr y
        exact bP_z.mp z ⟨q1, fun i hi => q2 i (by omega)⟩
      refine R216_32 H ⟨⟨by omega, by omega⟩, ⟨by omega, by omega⟩, fun z => by omega, fun _ => ⟨hvR, fun z => ⟨fun z2 => hno (no z2) _ _, fun z2 => absurd z z2⟩, fun z => ?_⟩⟩
      have hv1 : m 130 k = (w.length : Int) ∧ ∀ i : Nat, i < j → m 129 (16 * (k : Int) + i) = w.getD i 0 := Classical.byContradiction fun y => z (by rw [hv]; exact bP_0 y)
      have er := hr j (by omega)
      refine ⟨⟨by omega, by omega⟩, ⟨by omega, by omega⟩, a3 j (by omega), by rw [er]; exact hR j (by omega), ?_⟩
      rintro v1 e1
      have go := ih (j + 1) v1 (by omega) (by
        rw [e1, er]
        by_cases y : m 129 (16 * (k : Int) + j) = w.getD j 0
        · rw [if_neg (fun q => q y)]
          refine (bP_1 ⟨hv1.1, fun i hi => ?_⟩).symm
          by_cases q : i = j
          · rw [q]; exact y
          · exact hv1.2 i (by omega)
        · rw [if_pos y]
          exact (bP_0 (fun q => y (q.2 j (by omega)))).symm) hno
      rw [show ((j + 1 : Nat) : Int) = (j : Int) + 1 by omega] at go
      exact go
  have outer : ∀ (f k : Nat) (o4 o5 : Option Value), (k : Int) + f = x → Wp d 216 (2, [some (.ref 125), some (.int (zI fr)), some (.int (zI to)), some (.int (zI (k : Int))), o4, o5], [], sA μ m l) (pI (fun y μ' => y = zI x ∧ μ' = sA μ m l) noX) := by
    intro f
    induction f with
    | zero =>
      intro k o4 o5 hk
      have a := hW.2.2 k (by have := hW.1; omega)
      refine R216_2 H ⟨⟨by omega, by omega⟩, ⟨by omega, by omega⟩, fun z => by omega, fun _ => ⟨⟨by omega, by omega⟩, ⟨by omega, by omega⟩, ⟨by omega, by omega⟩, ?_⟩⟩
      rintro v1 e1
      refine inner k (by omega) w.length 0 v1 (by omega) ?_ (fun hno => absurd (by rw [show k = x.toNat by omega]; exact x3) hno)
      rw [e1, hl]
      by_cases y : m 130 k = (w.length : Int)
      · rw [if_neg (fun q => q y)]
        exact (bP_1 ⟨y, fun i hi => absurd hi (Nat.not_lt_zero i)⟩).symm
      · rw [if_pos y]
        exact (bP_0 (fun q => y q.1)).symm
    | succ f ih =>
      intro k o4 o5 hk
      have a := hW.2.2 k (by have := hW.1; omega)
      refine R216_2 H ⟨⟨by omega, by omega⟩, ⟨by omega, by omega⟩, fun z => by omega, fun _ => ⟨⟨by omega, by omega⟩, ⟨by omega, by omega⟩, ⟨by omega, by omega⟩, ?_⟩⟩
      rintro v1 e1
      refine inner k (by omega) w.length 0 v1 (by omega) ?_ (fun _ o4 o5 => ?_)
      · rw [e1, hl]
        by_cases y : m 130 k = (w.length : Int)
        · rw [if_neg (fun q => q y)]
          exact (bP_1 ⟨y, fun i hi => absurd hi (Nat.not_lt_zero i)⟩).symm
        · rw [if_pos y]
          exact (bP_0 (fun q => y q.1)).symm
      · have go := ih (k + 1) o4 o5 (by omega)
        rw [show ((k + 1 : Nat) : Int) = (k : Int) + 1 by omega] at go
        exact go
  exact R216_0 H (outer x.toNat 0 none none (by omega))
/-- a term by its name and its parts: found, or put -/
theorem c_tput {m : PM} {x : Int} {w : List Int} {ps : List (List Cd)} (H : RS μ) (h : TbR m T) (hT : T < 130000) (hx : nX m x w) (hn : ps.length ≤ 4) (hps : ∀ k : Nat, k < ps.length → ∃ u : Nat, m 151 (4 * (T : Int) + k) = (u : Int) ∧ u < T ∧ Tg m u (ps.getD k []))
    (hq : ∀ (m' : PM) (T' u : Nat), T ≤ T' → T' ≤ T + 1 → TbR m' T' → u < T' → Tg m' u ((ps.length, w) :: ps.flatten) → (∀ c j, ¬ (c = 153 ∨ ((c = 149 ∨ c = 150 ∨ c = 152) ∧ j = (T : Int)) ∨ (c = 125 ∧ j = 42)) → m' c j = m c j) → Q (.inl (some (.int (zI (u : Int))))) (sA μ m' l)) :
    Wp (d + 1) 205 (0, [some (.ref 125), some (.int (zI x)), some (.int (zI (ps.length : Int))), some (.int (zI 1)), none, none, none, none], [], sA μ m l) Q := by
  obtain ⟨hI, hU, hL, hW, hD, h9⟩ := id h
  have x1 := hx.1
  have x2 := hx.2.1
  refine c_term (p := 1) H hI hT ⟨by omega, by omega⟩ hn (fun k hk => ?_) (Or.inr rfl) (fun t ht it => ?_) (fun z => absurd z (by decide)) (fun _ no m' n1 n2 n3 n4 => ?_)
  · obtain ⟨u, e, e2, _⟩ := hps k hk
    rw [e]
    omega
  · obtain ⟨i1, i2, i3⟩ := it
    rw [sl_len] at i2 i3
    have i3' := (sl_eq.mp i3).2
    refine hq m T t (Nat.le_refl _) (by omega) h ht (Tg_mk hn (by rw [i1]; exact hx) i2 (fun k hk => ?_)) (fun _ _ _ => rfl)
    obtain ⟨u, e, e2, e3⟩ := hps k hk
    have ek := i3' k hk
    have lt := ((hI.2.2.2.1 t ht).2.2 k (by rw [i2]; omega)).2
    rw [ek, e] at lt
    exact ⟨u, by rw [ek]; exact e, by omega, e3⟩
  · obtain ⟨i1, i2, i3⟩ := id n2
    rw [sl_len] at i2 i3
    have i3' := (sl_eq.mp i3).2
    have e9 : m' 125 9 = m 125 9 := n4 _ _ (by omega)
    have e129 : ∀ i, m' 129 i = m 129 i := fun i => n4 _ _ (by omega)
    have e130 : ∀ i, m' 130 i = m 130 i := fun i => n4 _ _ (by omega)
    have hLn : TtL m' (T + 1) := by
      intro t ht
      by_cases z : t = T
      · refine ⟨by rw [z, i1, e9]; exact x2, ?_⟩
        rw [z, n3, i1, i2, e130, show (((ps.length : Nat) : Int)).toNat = ps.length from rfl]
        rw [plS_cg (m := m) (m' := m') ps.length (fun i hi => ?_)]
        obtain ⟨u, e, e2, _⟩ := hps i hi
        refine ⟨n4 _ _ (by omega), ?_⟩
        rw [e]
        exact n4 _ _ (by omega)
      · have ht' : t < T := by omega
        obtain ⟨_, a2, a3⟩ := hI.2.2.2.1 t ht'
        refine ⟨by rw [n4 149 _ (by omega), e9]; exact (hL t ht').1, ?_⟩
        rw [n4 152 _ (by omega), n4 149 _ (by omega), n4 150 _ (by omega), e130, (hL t ht').2]
        rw [plS_cg (m := m) (m' := m') (m 150 t).toNat (fun i hi => ?_)]
        have hp := a3 i (by omega)
        exact ⟨n4 _ _ (by omega), n4 _ _ (by omega)⟩
    have hUn : TtU m' (T + 1) := by
      have back : ∀ (t : Nat) (x : Int) (qs : List Int), t < T → isT m' t x qs → isT m t x qs := fun t x qs ht h => isT_cg (T := T) ht (n4 _ _ (by omega)) (n4 _ _ (by omega)) (fun i h1 h2 => n4 _ _ (by omega)) (hI.2.2.2.1 t ht).2.1.2 h
      intro t t' x qs ht ht' a b
      by_cases q1 : t = T
      · by_cases q2 : t' = T
        · omega
        · rw [q1] at a
          obtain ⟨f1, f2⟩ := isT_fn a n2
          rw [f1, f2] at b
          exact absurd (back t' _ _ (by omega) b) (no t' (by omega))
      · by_cases q2 : t' = T
        · rw [q2] at b
          obtain ⟨f1, f2⟩ := isT_fn b n2
          rw [f1, f2] at a
          exact absurd (back t _ _ (by omega) a) (no t (by omega))
        · exact hU t t' x qs (by omega) (by omega) (back t x qs (by omega) a) (back t' x qs (by omega) b)
    refine hq m' (T + 1) T (by omega) (Nat.le_refl _) ⟨n1, hUn, hLn, NmW_cg e9 e129 e130 hW, NmD_cg e9 e129 e130 hD, by rw [e9]; exact h9⟩ (by omega) (Tg_mk hn (by rw [i1]; exact nX_cg e9 e129 e130 hx) i2 (fun k hk => ?_)) n4
    obtain ⟨u, e, e2, e3⟩ := hps k hk
    have ek := i3' k hk
    refine ⟨u, ek.trans e, by omega, ?_⟩
    exact TgR_cg (T := T) e9 e129 e130 (fun t ht => ⟨n4 _ _ (by omega), n4 _ _ (by omega), fun i _ => n4 _ _ (by omega)⟩) _ u _ e2 e3
end RRA
