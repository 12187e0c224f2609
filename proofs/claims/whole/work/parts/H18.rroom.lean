/-! ===== the reference: room ===== -/
theorem take_a {S : List Atm} {j : Nat} (h : j < S.length) : S.take (j + 1) = S.take j ++ [S.getD j ([], [])] := by
  rw [List.take_succ_eq_append_getElem h, List.getD_eq_getElem?_getD, List.getElem?_eq_getElem h]
  rfl
theorem cnt_app (L : List Atm) (a : Atm) (w : List Int) : cntA (L ++ [a]) w = cntA L w + (if a.1 = w then 1 else 0) := by
  unfold cntA
  rw [List.filter_append, List.length_append]
  congr 1
  by_cases h : a.1 = w
  · rw [if_pos h]
    simp [h]
  · rw [if_neg h]
    simp [h]
/-- how many atoms of a relation are held -/
theorem cnt_F {W : Int → Nat} {m : PM} {T : Nat} {S : List Atm} (hS : HdS W m T S) (hD : NmD m) {x : Int} {w : List Int} (hx : nX m x w) : cnF (m 154) x S.length = (cntA S w : Int) := by
  have key : ∀ j, j ≤ S.length → cnF (m 154) x j = (cntA (S.take j) w : Int) := by
    intro j
    induction j with
    | zero => intro _; rfl
    | succ j ih =>
      intro hj
      have hn := (hS j (by omega)).1
      have e : cnF (m 154) x (j + 1) = cnF (m 154) x j + (if m 154 (j : Int) = x then 1 else 0) := rfl
      rw [e, ih (by omega), take_a (by omega), cnt_app]
      have iff := nX_inj hD hn hx
      by_cases h : m 154 (j : Int) = x
      · rw [if_pos h, if_pos (iff.mp h)]
        omega
      · rw [if_neg h, if_neg (fun z => h (iff.mpr z))]
        omega
  have z := key S.length (Nat.le_refl _)
  rw [List.take_length] at z
  exact z
theorem rml_app (S : List Atm) (L : List (Nat × Atm)) (c : Nat × Atm) : rmL S (L ++ [c]) = rmL S L * cntA S c.2.1 := by
  induction L with
  | nil => show cntA S c.2.1 * 1 = 1 * cntA S c.2.1; omega
  | cons a L ih =>
    show cntA S a.2.1 * rmL S (L ++ [c]) = cntA S a.2.1 * rmL S L * cntA S c.2.1
    rw [ih, Nat.mul_assoc]
/-- a rule's room as it is told -/
def rmV (S : List Atm) (ru : Rul) : Int := if rmA S ru ≤ 300000 then (rmA S ru : Int) else 300001
section RRM
variable {d : Nat} {μ : am_Mem} {l : PM} {T : Nat} {W : Int → Nat} {rs : List Rul} {S : List Atm}
theorem psC_tk {cs : List (Nat × Atm)} {j : Nat} (h : j < cs.length) : psC (cs.take (j + 1)) = if (cs.getD j cnD).1 = 1 then psC (cs.take j) ++ [cs.getD j cnD] else psC (cs.take j) := by
  rw [take_s h]
  generalize cs.getD j cnD = c
  unfold psC
  rw [List.filter_append]
  by_cases e : c.1 = 1
  · rw [if_pos e, List.filter_cons_of_pos (by rw [e]; decide)]
    rfl
  · rw [if_neg e, List.filter_cons_of_neg (by simp [e])]
    simp
theorem c_room {m : PM} {r : Nat} (H : RS μ) (hw : WkR W rs m T S) (hr : r < rs.length) : Wp d 223 (0, [some (.ref 125), some (.int (zI (r : Int))), none, none, none], [], sA μ m l) (pI (fun y μ' => y = zI (rmV S (rs.getD r ruD)) ∧ μ' = sA μ m l) noX) := by
  obtain ⟨hv, _, _, _, hH, hS, _⟩ := id hw
  have n60 := (RV_n hv).2.1
  have h9 := (RV_n hv).2.2.2.1
  have hD := hv.2.2.1
  have hF := hH.2.1
  obtain ⟨_, ⟨b1, b2, b3⟩, _⟩ := RV_rule hv hr
  have rc := fun (j : Nat) (hj : j < (rs.getD r ruD).2.length) => RV_cond hv hr hj
  have hrm : rmA S (rs.getD r ruD) = rmL S (psC (rs.getD r ruD).2) := rfl
  have hV : rmV S (rs.getD r ruD) = if rmL S (psC (rs.getD r ruD).2) ≤ 300000 then (rmL S (psC (rs.getD r ruD).2) : Int) else 300001 := rfl
  rw [hV]
  generalize (rs.getD r ruD).2 = cs at *
  have cnt : ∀ j, j < cs.length → (cs.getD j cnD).1 = 1 → (0 ≤ m 135 (m 134 (m 132 r + j)) ∧ m 135 (m 134 (m 132 r + j)) < 1100) ∧ m 160 (m 135 (m 134 (m 132 r + j))) = (cntA S (cs.getD j cnD).2.1 : Int) := fun j hj e => by
    obtain ⟨_, _, _, _, _, c6, _⟩ := rc j hj
    have hx := c6 (by omega)
    have x1 := hx.1
    have x2 := hx.2.1
    refine ⟨⟨by omega, by omega⟩, ?_⟩
    rw [(hH.2.2.2.1 _ hx.1 hx.2.1).1]
    exact cnt_F hS hD hx
  have cnt1000 : ∀ w, cntA S w ≤ 1000 := fun w => Nat.le_trans (List.length_filter_le _ _) hF
  /- the product -/
  have prod : ∀ (f j : Nat) (x2 : Int) (v : Int), j + f = cs.length → (v = (rmL S (psC (cs.take j)) : Int) ∨ (v = 0 ∧ rmL S (psC cs) = 0)) → (rmL S (psC cs) = 0 → v = 0) → ((∃ i, i < cs.length ∧ (cs.getD i cnD).1 = 1 ∧ cntA S (cs.getD i cnD).2.1 = 0) ∨ ∀ i, i < cs.length → (cs.getD i cnD).1 = 1 → 1 ≤ cntA S (cs.getD i cnD).2.1) → 0 ≤ v ∧ v ≤ 300000000 → Wp d 223 (84, [some (.ref 125), some (.int (zI (r : Int))), some (.int (zI x2)), some (.int (zI v)), some (.int (zI (m 132 (r : Int) + (j : Int))))], [], sA μ m l) (pI (fun y μ' => y = zI (if rmL S (psC cs) ≤ 300000 then (rmL S (psC cs) : Int) else 300001) ∧ μ' = sA μ m l) noX) := by
    intro f
    induction f with
    | zero =>
      intro j x2 v hj hv0 hz _ hvR
      have ej : j = cs.length := by omega
      have ev : v = (rmL S (psC cs) : Int) := by
        rcases hv0 with e | ⟨e, e'⟩
        · rw [ej, List.take_length] at e
          exact e
        · rw [e, e']; rfl
      refine R223_84 H ⟨⟨by omega, by omega⟩, ⟨by omega, by omega⟩, ⟨by omega, by omega⟩, fun _ => ⟨⟨by omega, by omega⟩, ?_⟩, fun z => by omega⟩
      rintro v1 e1
      rw [ev] at e1
      refine ⟨?_, rfl⟩
      rw [e1]
      by_cases y : rmL S (psC cs) ≤ 300000
      · rw [if_pos y, if_pos (by omega)]
      · rw [if_neg y, if_neg (by omega)]
    | succ f ih =>
      intro j x2 v hj hv0 hz hone hvR
      have hjl : j < cs.length := by omega
      obtain ⟨c1, c2, c3, _, _, _, _⟩ := rc j hjl
      have tk := psC_tk hjl
      have hk3 : (cs.getD j cnD).1 ≤ 3 := by have := c1.2; omega
      refine R223_84 H ⟨⟨by omega, by omega⟩, ⟨by omega, by omega⟩, ⟨by omega, by omega⟩, fun z => by omega, fun _ => ⟨⟨by omega, by omega⟩, fun zb => ?_, fun zb => ⟨⟨by omega, by omega⟩, by rw [c2]; exact ⟨by omega, by omega⟩, ⟨fun _ => trivial, fun y => ⟨⟨by omega, by omega⟩, (cnt j hjl (by rw [c2] at y; omega)).1, trivial⟩⟩, ?_⟩⟩⟩
      · rintro v2 e2
        rw [if_neg (by omega)] at e2
        refine ⟨?_, rfl⟩
        rw [e2]
        have hbig : 300000 < rmL S (psC cs) := by
          rcases hv0 with e | ⟨e, _⟩
          · rcases hone with ⟨i, hi, e1, e0⟩ | hone
            · have hmem : cs.getD i cnD ∈ psC cs := psC_mem.mpr ⟨(mem_gD cs cnD _).mpr ⟨i, hi, rfl⟩, e1⟩
              have key : ∀ L : List (Nat × Atm), cs.getD i cnD ∈ L → rmL S L = 0 := by
                intro L
                induction L with
                | nil => intro h; exact absurd h List.not_mem_nil
                | cons a L ihL =>
                  intro h
                  show cntA S a.2.1 * rmL S L = 0
                  rcases List.mem_cons.mp h with y | y
                  · rw [← y, e0, Nat.zero_mul]
                  · rw [ihL y, Nat.mul_zero]
              have := hz (key _ hmem)
              omega
            · have mono : ∀ g k, k + g = cs.length → rmL S (psC (cs.take k)) ≤ rmL S (psC cs) := by
                intro g
                induction g with
                | zero => intro k hk; rw [show k = cs.length by omega, List.take_length]; exact Nat.le_refl _
                | succ g ihg =>
                  intro k hk
                  have z := ihg (k + 1) (by omega)
                  rw [psC_tk (by omega)] at z
                  by_cases y : (cs.getD k cnD).1 = 1
                  · rw [if_pos y, rml_app] at z
                    have o := hone k (by omega) y
                    have := Nat.le_mul_of_pos_right (rmL S (psC (cs.take k))) o
                    omega
                  · rw [if_neg y] at z
                    exact z
              have := mono f.succ j (by omega)
              omega
          · omega
        rw [if_neg (by omega)]
      · rintro v3 e3
        have z := fun a b c => ih (j + 1) x2 v3 (by omega) a b hone c
        rw [show m 132 (r : Int) + ((j + 1 : Nat) : Int) = m 132 (r : Int) + (j : Int) + 1 by omega] at z
        by_cases y : (cs.getD j cnD).1 = 1
        · have y' : ¬ ¬ m 133 (m 132 (r : Int) + (j : Int)) = 1 := fun w => w (by rw [c2, y]; rfl)
          rw [if_neg y', (cnt j hjl y).2] at e3
          have c1000 := cnt1000 (cs.getD j cnD).2.1
          rw [if_pos y] at tk
          refine z ?_ (fun h0 => by rw [e3, hz h0, Int.zero_mul]) ?_
          · rcases hv0 with e | ⟨e, e'⟩
            · exact Or.inl (by rw [e3, e, tk, rml_app]; exact (Int.natCast_mul _ _).symm)
            · exact Or.inr ⟨by rw [e3, e, Int.zero_mul], e'⟩
          · rw [e3]
            have h1 : 0 ≤ (cntA S (cs.getD j cnD).2.1 : Int) ∧ (cntA S (cs.getD j cnD).2.1 : Int) ≤ 1000 := ⟨by omega, by omega⟩
            exact ⟨Int.mul_nonneg hvR.1 h1.1, Int.le_trans (Int.mul_le_mul (by omega : v ≤ 300000) h1.2 h1.1 (by decide)) (by decide)⟩
        · have y' : ¬ m 133 (m 132 (r : Int) + (j : Int)) = 1 := by rw [c2]; omega
          rw [if_pos y'] at e3
          rw [if_neg y] at tk
          refine z ?_ (fun h0 => by rw [e3]; exact hz h0) (by rw [e3]; exact hvR)
          rw [e3, tk]
          exact hv0
  /- is one of them empty -/
  have none_ : ∀ (f j : Nat) (v : Int), j + f = cs.length → v = bP (∃ i, i < j ∧ (cs.getD i cnD).1 = 1 ∧ cntA S (cs.getD i cnD).2.1 = 0) → Wp d 223 (9, [some (.ref 125), some (.int (zI (r : Int))), some (.int (zI v)), some (.int (zI (m 132 (r : Int) + (j : Int)))), none], [], sA μ m l) (pI (fun y μ' => y = zI (if rmL S (psC cs) ≤ 300000 then (rmL S (psC cs) : Int) else 300001) ∧ μ' = sA μ m l) noX) := by
    intro f
    induction f with
    | zero =>
      intro j v hj ev
      have ej : j = cs.length := by omega
      rw [ej] at ev
      refine R223_9 H ⟨⟨by omega, by omega⟩, ⟨by omega, by omega⟩, ⟨by omega, by omega⟩, fun _ => ⟨by rw [ev]; exact bP_R _, ?_⟩, fun z => by omega⟩
      rintro v1 e1
      refine ⟨⟨by omega, by omega⟩, ?_⟩
      have z0 : (∃ i, i < cs.length ∧ (cs.getD i cnD).1 = 1 ∧ cntA S (cs.getD i cnD).2.1 = 0) → rmL S (psC cs) = 0 := by
        rintro ⟨i, hi, e1', e0⟩
        have hmem : cs.getD i cnD ∈ psC cs := psC_mem.mpr ⟨(mem_gD cs cnD _).mpr ⟨i, hi, rfl⟩, e1'⟩
        have key : ∀ L : List (Nat × Atm), cs.getD i cnD ∈ L → rmL S L = 0 := by
          intro L
          induction L with
          | nil => intro h; exact absurd h List.not_mem_nil
          | cons a L ihL =>
            intro h
            show cntA S a.2.1 * rmL S L = 0
            rcases List.mem_cons.mp h with y | y
            · rw [← y, e0, Nat.zero_mul]
            · rw [ihL y, Nat.mul_zero]
        exact key _ hmem
      have z := fun a b c e => prod cs.length 0 v v1 (by omega) a b c e
      rw [show m 132 (r : Int) + ((0 : Nat) : Int) = m 132 (r : Int) by omega] at z
      by_cases y : ∃ i, i < cs.length ∧ (cs.getD i cnD).1 = 1 ∧ cntA S (cs.getD i cnD).2.1 = 0
      · rw [ev, bP_1 y, if_neg (by decide)] at e1
        exact z (Or.inr ⟨e1, z0 y⟩) (fun _ => e1) (Or.inl y) (by rw [e1]; exact ⟨by decide, by decide⟩)
      · rw [ev, bP_0 y, if_pos (by decide)] at e1
        have hone : ∀ i, i < cs.length → (cs.getD i cnD).1 = 1 → 1 ≤ cntA S (cs.getD i cnD).2.1 := fun i hi e => Nat.pos_of_ne_zero fun w => y ⟨i, hi, e, w⟩
        have pos : ∀ k, k ≤ cs.length → 1 ≤ rmL S (psC (cs.take k)) := by
          intro k
          induction k with
          | zero => intro _; exact Nat.le_refl _
          | succ k ihk =>
            intro hk
            have := ihk (by omega)
            rw [psC_tk (by omega)]
            by_cases w : (cs.getD k cnD).1 = 1
            · rw [if_pos w, rml_app]
              exact Nat.mul_pos this (hone k (by omega) w)
            · rw [if_neg w]
              exact this
        refine z (Or.inl e1) (fun h0 => ?_) (Or.inr hone) (by rw [e1]; exact ⟨by decide, by decide⟩)
        have := pos cs.length (Nat.le_refl _)
        rw [List.take_length] at this
        omega
    | succ f ih =>
      intro j v hj ev
      have hjl : j < cs.length := by omega
      obtain ⟨c1, c2, c3, _, _, _, _⟩ := rc j hjl
      have hk3 : (cs.getD j cnD).1 ≤ 3 := by have := c1.2; omega
      have c1000 := cnt1000 (cs.getD j cnD).2.1
      refine R223_9 H ⟨⟨by omega, by omega⟩, ⟨by omega, by omega⟩, ⟨by omega, by omega⟩, fun z => by omega, fun _ => ⟨by rw [ev]; exact bP_R _, ⟨fun _ => trivial, fun _ => ⟨⟨by omega, by omega⟩, by rw [c2]; exact ⟨by omega, by omega⟩, ⟨fun _ => trivial, fun y => ⟨⟨by omega, by omega⟩, (cnt j hjl (by rw [c2] at y; omega)).1, by rw [(cnt j hjl (by rw [c2] at y; omega)).2]; exact ⟨by omega, by omega⟩, trivial⟩⟩⟩⟩, ?_⟩⟩
      rintro v2 e2
      have z := ih (j + 1) v2 (by omega)
      rw [show m 132 (r : Int) + ((j + 1 : Nat) : Int) = m 132 (r : Int) + (j : Int) + 1 by omega] at z
      refine z ?_
      by_cases y : ∃ i, i < j ∧ (cs.getD i cnD).1 = 1 ∧ cntA S (cs.getD i cnD).2.1 = 0
      · rw [ev, bP_1 y, if_pos (by decide)] at e2
        rw [e2]
        obtain ⟨i, i1, i2⟩ := y
        exact (bP_1 ⟨i, by omega, i2⟩).symm
      · rw [ev, bP_0 y, if_neg (fun w => w rfl)] at e2
        by_cases w : (cs.getD j cnD).1 = 1
        · rw [if_neg (fun u => u (by rw [c2, w]; rfl)), (cnt j hjl w).2] at e2
          by_cases u : cntA S (cs.getD j cnD).2.1 = 0
          · rw [if_neg (fun t => t (by rw [u]; rfl))] at e2
            rw [e2]
            exact (bP_1 ⟨j, by omega, w, u⟩).symm
          · rw [if_pos (by omega)] at e2
            rw [e2]
            refine (bP_0 ?_).symm
            rintro ⟨i, i1, i2, i3⟩
            by_cases t : i = j
            · rw [t] at i3
              exact u i3
            · exact y ⟨i, by omega, i2, i3⟩
        · rw [if_pos (by rw [c2]; omega)] at e2
          rw [e2]
          refine (bP_0 ?_).symm
          rintro ⟨i, i1, i2, i3⟩
          by_cases t : i = j
          · rw [t] at i2
            exact w i2
          · exact y ⟨i, by omega, i2, i3⟩
  refine R223_0 H ⟨⟨by omega, by omega⟩, ?_⟩
  have z := none_ cs.length 0 0 (by omega) (bP_0 (fun ⟨i, hi, _⟩ => absurd hi (Nat.not_lt_zero i))).symm
  rw [show m 132 (r : Int) + ((0 : Nat) : Int) = m 132 (r : Int) by omega] at z
  exact z
end RRM
