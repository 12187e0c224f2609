/-! ===== the reference's reader: a term, whole ===== -/
section SIM
variable {t : Int → Int} {n : Int} {μ : am_Mem} {l : PM}
/-- parts are being read -/
def PI2 (t : Int → Int) (n : Int) (f : Nat) (m : PM) (i : Nat) (vs : List (List Int)) (what o w : Int) (ct cc : Nat) (k0 : Int) (acc : List (List Cd)) : Prop :=
  BI t n m i vs ∧ (1 ≤ o ∧ o ≤ 10 ∧ m 125 34 = o ∧ m 143 (o - 1) = what ∧ m 145 (o - 1) = w ∧ m 144 (o - 1) = acc.length ∧ 0 ≤ w) ∧ m cc w = acc.length ∧ m 125 22 = k0 + acc.flatten.length ∧ PsR (TmR f m) m ct w 0 k0 acc ∧ ((what = 5 ∧ ct = 141 ∧ cc = 140 ∧ k0 = w + 1) ∨ ((what = 2 ∨ what = 4) ∧ ct = 136 ∧ cc = 137 ∧ w < 600 ∧ 0 ≤ k0))
/-- where reading parts may write -/
abbrev SPl (k0 o w : Int) (ct cc c : Nat) (j : Int) : Prop := (c = 125 ∧ (j = 9 ∨ j = 22 ∨ j = 28 ∨ j = 29 ∨ j = 30 ∨ j = 31 ∨ j = 34 ∨ j = 38)) ∨ c = 129 ∨ c = 130 ∨ c = 146 ∨ ((c = 138 ∨ c = 139 ∨ c = 140 ∨ c = 142) ∧ k0 ≤ j) ∨ (c = 141 ∧ 4 * k0 ≤ j) ∨ ((c = 143 ∨ c = 144 ∨ c = 145) ∧ o ≤ j) ∨ (c = 144 ∧ j = o - 1) ∨ (c = ct ∧ 4 * w ≤ j ∧ j < 4 * w + 4) ∨ (c = cc ∧ j = w)
/-- how the reader goes through a term -/
def SimT (t : Int → Int) (n : Int) (μ : am_Mem) (l : PM) (dl : Nat) : Prop := ∀ (i : Nat) (vs : List (List Int)) (m : PM) (o w cnt : Int) (ct cc : Nat), BI t n m i vs → Top m o w cnt ct cc → o + dl = 10 → ¬ tK t n i = 2 → match pT t n dl i vs with
  | .inl x => ∃ m', Rch μ l m m' ∧ Flt t n m m' x
  | .inr (cs, i', vs') => ∃ m', Rch μ l m m' ∧ BI t n m' i' vs' ∧ TP (dl + 1) m m' cs o w cnt ct cc
theorem Flt_of {m m1 m' : PM} {x : Nat} (h : Flt t n m1 m' x) (hs : ∀ c i, ¬ PCl c i → m1 c i = m c i) : Flt t n m m' x := ⟨h.1, h.2.1, fun c i q => by rw [h.2.2 c i q, hs c i q]⟩
theorem PI2_Top {f : Nat} {m : PM} {i : Nat} {vs : List (List Int)} {what o w : Int} {ct cc : Nat} {k0 : Int} {acc : List (List Cd)} (h : PI2 t n f m i vs what o w ct cc k0 acc) (hl : acc.length < (if what = 4 then 2 else 4)) : Top m o w acc.length ct cc := by
  obtain ⟨hB, ⟨h1, h2, h3, h4, h5, h6, h7⟩, h8, h9, h10, h11⟩ := h
  refine ⟨h1, h2, h3, h5, h6, by omega, h7, ?_⟩
  rcases h11 with ⟨a, b, c, d⟩ | ⟨a | a, b, c, d, e⟩
  · rw [if_neg (by omega)] at hl
    exact Or.inl ⟨by omega, b, c, by omega, by omega⟩
  · rw [if_neg (by omega)] at hl
    exact Or.inr (Or.inl ⟨by omega, b, c, d, by omega⟩)
  · rw [if_pos a] at hl
    exact Or.inr (Or.inr ⟨by omega, b, c, d, by omega⟩)
/-- a part more -/
theorem PI2_add {f : Nat} {m m1 : PM} {i i1 : Nat} {vs vs1 : List (List Int)} {what o w : Int} {ct cc : Nat} {k0 : Int} {acc : List (List Cd)} {c : List Cd} (h : PI2 t n f m i vs what o w ct cc k0 acc) (hl : acc.length < 4) (hB1 : BI t n m1 i1 vs1) (hP : TP f m m1 c o w acc.length ct cc) : PI2 t n f m1 i1 vs1 what o w ct cc k0 (acc ++ [c]) ∧ ∀ x j, ¬ SPl k0 o w ct cc x j → m1 x j = m x j := by
  obtain ⟨hB, ⟨h1, h2, h3, h4, h5, h6, h7⟩, h8, h9, h10, h11⟩ := h
  obtain ⟨p1, p2, p3, p4, p5, p6, p7, p8⟩ := hP
  have hlen : ((acc ++ [c]).length : Int) = acc.length + 1 := by simp
  have hfl : ((acc ++ [c]).flatten.length : Int) = acc.flatten.length + c.length := by simp
  have hk : k0 ≤ m 125 22 := by omega
  have hw : (ct = 141 ∧ cc = 140 ∧ k0 = w + 1) ∨ (ct = 136 ∧ cc = 137) := by
    rcases h11 with ⟨a, b, c', d⟩ | ⟨a, b, c', d⟩
    · exact Or.inl ⟨b, c', d⟩
    · exact Or.inr ⟨b, c'⟩
  have hsame : ∀ x j, ¬ SPl k0 o w ct cc x j → m1 x j = m x j := by
    intro x j q
    refine p1 x j ?_
    unfold SPl at q
    unfold ST
    rcases hw with ⟨rfl, rfl, rfl⟩ | ⟨rfl, rfl⟩ <;> omega
  refine ⟨⟨hB1, ⟨h1, h2, p2, ?_, ?_, by rw [p6, hlen], h7⟩, by rw [p5, h8, hlen], by rw [p3, h9, hfl]; omega, ?_, h11⟩, hsame⟩
  · rw [p1 143 (o - 1) (by unfold ST; rcases hw with ⟨rfl, rfl, rfl⟩ | ⟨rfl, rfl⟩ <;> omega)]
    exact h4
  · rw [p1 145 (o - 1) (by unfold ST; rcases hw with ⟨rfl, rfl, rfl⟩ | ⟨rfl, rfl⟩ <;> omega)]
    exact h5
  · refine PsR_snoc acc 0 k0 ?_ ?_ ?_
    · refine PsR_cg acc 0 k0 (fun j _ hj => ?_) (fun y p hy hp hR => ?_) h10
      · refine p1 ct _ ?_
        unfold ST
        rcases hw with ⟨rfl, rfl, rfl⟩ | ⟨rfl, rfl⟩ <;> omega
      · refine TmR_cg p8 f y p (fun j j1 j2 => ⟨?_, ?_, ?_, ?_⟩) (fun j j1 j2 => ?_) hR
        · exact p1 _ _ (by unfold ST; rcases hw with ⟨rfl, rfl, rfl⟩ | ⟨rfl, rfl⟩ <;> omega)
        · exact p1 _ _ (by unfold ST; rcases hw with ⟨rfl, rfl, rfl⟩ | ⟨rfl, rfl⟩ <;> omega)
        · exact p1 _ _ (by unfold ST; rcases hw with ⟨rfl, rfl, rfl⟩ | ⟨rfl, rfl⟩ <;> omega)
        · exact p1 _ _ (by unfold ST; rcases hw with ⟨rfl, rfl, rfl⟩ | ⟨rfl, rfl⟩ <;> omega)
        · exact p1 _ _ (by unfold ST; rcases hw with ⟨rfl, rfl, rfl⟩ | ⟨rfl, rfl⟩ <;> omega)
    · have e : 4 * w + ((0 + acc.length : Nat) : Int) = 4 * w + (acc.length : Int) := by omega
      rw [e, p4]
      omega
    · rw [← h9]
      exact p7
theorem SPl_PCl {k0 o w : Int} {ct cc c : Nat} {j : Int} (hc : (ct = 141 ∧ cc = 140) ∨ (ct = 136 ∧ cc = 137)) (h : ¬ PCl c j) : ¬ SPl k0 o w ct cc c j := by
  unfold PCl at h
  unfold SPl
  rcases hc with ⟨rfl, rfl⟩ | ⟨rfl, rfl⟩ <;> omega
theorem PI2_c {f : Nat} {m : PM} {i : Nat} {vs : List (List Int)} {what o w : Int} {ct cc : Nat} {k0 : Int} {acc : List (List Cd)} (h : PI2 t n f m i vs what o w ct cc k0 acc) : (ct = 141 ∧ cc = 140) ∨ (ct = 136 ∧ cc = 137) := by
  rcases h.2.2.2.2.2 with ⟨_, b, c, _⟩ | ⟨_, b, c, _⟩
  · exact Or.inl ⟨b, c⟩
  · exact Or.inr ⟨b, c⟩
/-- too many parts, or too few -/
theorem part_full (H : RS μ) {f : Nat} {m : PM} {i : Nat} {vs : List (List Int)} {what o w : Int} {ct cc : Nat} {k0 : Int} {acc : List (List Cd)} (h : PI2 t n f m i vs what o w ct cc k0 acc) (h2 : ¬ tK t n i = 2) (hl : acc.length = (if what = 4 then 2 else 4)) : ∃ m', Rch μ l m m' ∧ Flt t n m m' i := by
  obtain ⟨hB, ⟨h1, h2', h3, h4, h5, h6, h7⟩, h8, h9, h10, h11⟩ := h
  have hR := tK_R t n i
  rw [← hB.2.1.1] at hR
  have h28 : ¬ m 125 28 = 2 := by rw [hB.2.1.1]; exact h2
  have hwh : what = 5 ∨ what = 2 ∨ what = 4 := by
    rcases h11 with ⟨a, _⟩ | ⟨a, _⟩
    · exact Or.inl a
    · exact Or.inr a
  refine ⟨m_fail m 1 (m 125 29), ?_, fail_Flt hB.2.2.2.2.2 hB.2.1.2.1 (fun _ _ _ => rfl)⟩
  refine rch_part H hB.2.2.2.2.2 (by omega) (fun d => ?_)
  refine R171_0 (d := d + 1) H ⟨by omega, hR, fun _ => ?_, fun z => absurd h28 z⟩
  rw [h3]
  rintro v1 e1
  rw [h4] at e1
  refine ⟨by omega, ?_⟩
  rintro v2 e2
  rw [h6] at e2
  have hm : v_mostParts m v1 = if what = 4 then 2 else 4 := by
    unfold v_mostParts
    rcases hwh with a | a | a <;> (rw [a] at e1 ⊢; rw [e1]; decide)
  have hl4 : acc.length ≤ 4 := by rw [hl]; split <;> omega
  refine ⟨by omega, by rw [hm]; split <;> omega, fun z => absurd ?_ z, fun z => ⟨by rw [hB.2.2.2.2.2]; omega, ?_⟩⟩
  · rw [hm, e2, hl]
    split <;> rfl
  · rintro m3 rfl
    exact rfl
/-- a closing parenthesis too early -/
theorem close_f (H : RS μ) {f : Nat} {m : PM} {i : Nat} {vs : List (List Int)} {what o w : Int} {ct cc : Nat} {k0 : Int} {acc : List (List Cd)} (h : PI2 t n f m i vs what o w ct cc k0 acc) (h2 : tK t n i = 2) (hl : acc.length < (if what = 4 then 2 else 1)) : ∃ m', Rch μ l m m' ∧ Flt t n m m' i := by
  obtain ⟨hB, ⟨h1, h2', h3, h4, h5, h6, h7⟩, h8, h9, h10, h11⟩ := h
  have hR := tK_R t n i
  rw [← hB.2.1.1] at hR
  have h28 : m 125 28 = 2 := by rw [hB.2.1.1]; exact h2
  have hwh : what = 5 ∨ what = 2 ∨ what = 4 := by
    rcases h11 with ⟨a, _⟩ | ⟨a, _⟩
    · exact Or.inl a
    · exact Or.inr a
  have hl2 : acc.length < 2 := by split at hl <;> omega
  refine ⟨m_fail m 1 (m 125 29), ?_, fail_Flt hB.2.2.2.2.2 hB.2.1.2.1 (fun _ _ _ => rfl)⟩
  refine rch_part H hB.2.2.2.2.2 (by omega) (fun d => ?_)
  refine R171_0 (d := d + 1) H ⟨by omega, hR, fun z => absurd h28 z, fun _ => ?_⟩
  rintro v4 -
  refine ⟨fun μ' => μ' = sA μ (m_fail m 1 (m 125 29)) l, noX, ?_, fun μ' hp => ?_, fun _ _ z => z.elim⟩
  · refine R172_0 (d := d + 2) H ?_
    rw [h3, h4, h6]
    refine ⟨by omega, by omega, ⟨fun _ => ⟨by omega, trivial⟩, fun _ => ⟨by omega, trivial⟩⟩, ?_⟩
    rintro v1 - v2 - v3 e3
    have e3' : v3 = 0 := by
      rw [e3]
      by_cases q : what = 4
      · rw [if_neg (fun z => z q), if_pos (by omega)]
      · rw [if_neg q] at hl
        rw [if_pos q, if_pos (by omega)]
    refine ⟨fun z => absurd e3' z, fun _ => ⟨by rw [hB.2.2.2.2.2]; omega, ?_⟩⟩
    rintro m9 rfl
    exact rfl
  · have hp' : μ' = sA μ (m_fail m 1 (m 125 29)) l := hp
    rw [hp']
    exact R171_26 H rfl
/-- all parts of what is open, up to the closing parenthesis -/
theorem PL (H : RS μ) {dl : Nat} (hS : SimT t n μ l dl) {what o w : Int} {ct cc : Nat} {k0 : Int} (ho : o + dl = 10) (mn mx : Nat) (hmn : mn = if what = 4 then 2 else 1) (hmx : mx = if what = 4 then 2 else 4) :
    ∀ (r i : Nat) (vs : List (List Int)) (acc : List (List Cd)) (m : PM), acc.length + r = mx → PI2 t n (dl + 1) m i vs what o w ct cc k0 acc → match pPs (tK t n) (pT t n dl) mn r i vs acc with
      | .inl x => ∃ m', Rch μ l m m' ∧ Flt t n m m' x
      | .inr (ps, i', vs') => ∃ m' i0, i' = i0 + 1 ∧ tK t n i0 = 2 ∧ mn ≤ ps.length ∧ ps.length ≤ mx ∧ Rch μ l m m' ∧ PI2 t n (dl + 1) m' i0 vs' what o w ct cc k0 ps ∧ (∀ x j, ¬ SPl k0 o w ct cc x j → m' x j = m x j) ∧ ∀ x u, nX m x u → nX m' x u := by
  intro r
  induction r with
  | zero =>
    intro i vs acc m hr hI
    unfold pPs
    by_cases q : tK t n i = 2 ∧ mn ≤ acc.length
    · rw [if_pos q]
      exact ⟨m, i, rfl, q.1, q.2, by omega, Rch.refl, hI, fun _ _ _ => rfl, fun _ _ z => z⟩
    · rw [if_neg q]
      have h2 : ¬ tK t n i = 2 := fun z => q ⟨z, by rw [hmn]; rw [hmx] at hr; split at hr <;> (split <;> omega)⟩
      exact part_full H hI h2 (by rw [← hmx]; omega)
  | succ r ih =>
    intro i vs acc m hr hI
    unfold pPs
    by_cases q : tK t n i = 2 ∧ mn ≤ acc.length
    · rw [if_pos q]
      exact ⟨m, i, rfl, q.1, q.2, by omega, Rch.refl, hI, fun _ _ _ => rfl, fun _ _ z => z⟩
    · rw [if_neg q]
      by_cases h2 : tK t n i = 2
      · have hf : pT t n dl i vs = .inl i := by
          have e0 : ∀ e, pT0 t n i vs e = .inl i := by
            intro e
            unfold pT0
            rw [if_neg (by omega), if_neg (fun z => by have := z.1; omega), if_neg (by omega)]
          cases dl with
          | zero => exact e0 _
          | succ dl => exact e0 _
        rw [hf]
        have hlt : acc.length < mn := by
          refine Classical.byContradiction fun z => q ⟨h2, by omega⟩
        exact close_f H hI h2 (by rw [← hmn]; exact hlt)
      · have hT := PI2_Top hI (by rw [← hmx]; omega)
        have hs := hS i vs m o w acc.length ct cc hI.1 hT ho h2
        generalize pT t n dl i vs = res at hs ⊢
        match res, hs with
        | .inl x, hs => exact hs
        | .inr (c, i1, vs1), hs =>
          obtain ⟨m1, r1, hB1, hP⟩ := hs
          have hlt : acc.length < 4 := by rw [hmx] at hr; split at hr <;> omega
          obtain ⟨hI1, hs1⟩ := PI2_add hI hlt hB1 hP
          have h3 := ih i1 vs1 (acc ++ [c]) m1 (by simp; omega) hI1
          dsimp only
          generalize pPs (tK t n) (pT t n dl) mn r i1 vs1 (acc ++ [c]) = res2 at h3 ⊢
          match res2, h3 with
          | .inl x, h3 =>
            obtain ⟨m', r2, hF⟩ := h3
            exact ⟨m', r1.trans r2, Flt_of hF (fun c' j' q' => hs1 c' j' (SPl_PCl (PI2_c hI) q'))⟩
          | .inr (ps, i', vs'), h3 =>
            obtain ⟨m', i0, a1, a2, a3, a4, a5, a6, a7, a8⟩ := h3
            exact ⟨m', i0, a1, a2, a3, a4, r1.trans a5, a6, fun x j z => by rw [a7 x j z, hs1 x j z], fun x u z => a8 x u (hP.2.2.2.2.2.2.2 x u z)⟩
end SIM
