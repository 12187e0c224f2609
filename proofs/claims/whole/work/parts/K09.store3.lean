/-! ===== the class's store: tellTerm, tell ===== -/
/-- codes in a row -/
def CdR (X : Int → List Int → Prop) (m : PM) (e : Nat) (b : Int) (cs : List Cd) : Prop := ∀ k : Nat, k < cs.length → ∃ x : Int, X x (cs.getD k (0, [])).2 ∧ (cs.getD k (0, [])).1 ≤ 4 ∧ m e (b + (k : Int)) = 8 * x + ((cs.getD k (0, [])).1 : Int)
/-- a pile of terms, the top first -/
def PlC (X : Int → List Int → Prop) (q : Nat) (m : PM) (T c : Nat) (sk : List (List Cd)) : Prop := ∀ j : Nat, j < sk.length → ∃ u : Nat, m c ((sk.length : Int) - 1 - (j : Int)) = (u : Int) ∧ u < T ∧ Cg X q m u (sk.getD j [])
theorem gD_c0 {x : List Cd} {L : List (List Cd)} : (x :: L).getD 0 [] = x := rfl
theorem gD_cs {x : List Cd} {L : List (List Cd)} {j : Nat} : (x :: L).getD (j + 1) [] = L.getD j [] := by
  rw [List.getD_eq_getElem?_getD, List.getD_eq_getElem?_getD, List.getElem?_cons_succ]
theorem gD_a1 {L M : List (List Cd)} {j : Nat} (h : j < L.length) : (L ++ M).getD j [] = L.getD j [] := by
  rw [List.getD_eq_getElem?_getD, List.getD_eq_getElem?_getD, List.getElem?_append_left h]
theorem gD_a2 {L M : List (List Cd)} (j : Nat) : (L ++ M).getD (L.length + j) [] = M.getD j [] := by
  rw [List.getD_eq_getElem?_getD, List.getD_eq_getElem?_getD, List.getElem?_append_right (by omega), show L.length + j - L.length = j by omega]
section CST
variable {d : Nat} {Q : Option Value ⊕ Nat → am_Mem → Prop} {X : Int → List Int → Prop} {μ : am_Mem} {m l : PM} {s q e T r1 L1 : Nat}
theorem hE_of (hS : ShX s μ q e) : (e = 108 ∧ cN e = 9120 ∨ 185 ≤ e ∧ cN e = 343140) ∧ ¬ (q ≤ e ∧ e ≤ q + 7) := by
  obtain ⟨_, _, ⟨h1, h2, _⟩, _⟩ := hS
  refine ⟨?_, h2⟩
  rcases h1 with h | h
  · exact Or.inl ⟨h, by rw [h]; rfl⟩
  · exact Or.inr ⟨by omega, if_neg (by omega)⟩
theorem k_tellTerm {u : Nat} {p : List Cd} {b x1 : Int} (hS : ShX s μ q e) (hX : XP X) (hX2 : ∀ x w, X x w → x < 1024) (hI : CtT X q (tN q) (tS q) m T) (hu : u < T) (cu : Cg X q m u p) (hp : GdC p) (hl : p.length ≤ 19) (hb : 0 ≤ b ∧ b + (p.length : Int) ≤ (cN e : Int))
    (hk : ∀ m' : PM, CdR X m' e b p → (∀ c j, ¬ (c = 112 ∨ (c = e ∧ b ≤ j ∧ j < b + (p.length : Int))) → m' c j = m c j) → (∀ j, b ≤ j → j < b + (p.length : Int) → 0 ≤ m' e j ∧ m' e j ≤ 32767) → Q (.inl (some (.int (zI (b + (p.length : Int)))))) (sA μ m' l)) :
    Wp d 85 (0, [some (.ref 107), some (.int (zI (u : Int))), some (.int (zI b)), some (.ref 84), none, none, none, none, none], [], sA μ m l) Q := by
  obtain ⟨⟨s1, s2, s3, s4, s5, s6⟩, ⟨x1', x2'⟩, ⟨x3, x4, x5⟩, x6, x7⟩ := id hS
  have hq := TQ_q s3
  have hE := hE_of hS
  have hTN := hI.1.2.1
  have h58 := tN_le q
  have hcN : cN e ≤ 343140 := by omega
  have hf1 : [p].flatten = p := by simp
  obtain ⟨sk, sk0, sk1, sk2⟩ := sk_ex [p] (fun x hx => by rw [List.mem_singleton.mp hx]; exact ⟨hp, hl⟩)
  rw [hf1] at sk1 sk2
  have cgf : ∀ {m1 : PM}, (∀ c j, ¬ (c = 112 ∨ (c = e ∧ b ≤ j ∧ j < b + (p.length : Int))) → m1 c j = m c j) → ∀ t cs, t < T → Cg X q m t cs → Cg X q m1 t cs := fun {m1} f t cs ht h => CgR_cg (T := T) (fun t _ => ⟨f _ _ (by omega), f _ _ (by omega), fun i _ => f _ _ (by omega)⟩) _ t cs ht h
  have loop : ∀ (g i : Nat) (m1 : PM) (o7 o8 : Option Value), i + g = p.length → PlC X q m1 T 112 (sk i) → CdR X m1 e b (p.take i) → (∀ c j, ¬ (c = 112 ∨ (c = e ∧ b ≤ j ∧ j < b + (p.length : Int))) → m1 c j = m c j) → (∀ j, b ≤ j → j < b + (i : Int) → 0 ≤ m1 e j ∧ m1 e j ≤ 32767) → Wp d 85 (16, [some (.ref 107), some (.int (zI (u : Int))), some (.int (zI b)), some (.ref 84), some (.int (zI (b + (i : Int)))), some (.int (zI ((sk i).length : Int))), some (.int (zI (i : Int))), o7, o8], [], sA μ m1 l) Q := by
    intro g
    induction g with
    | zero =>
      intro i m1 o7 o8 hi hpl hcd f1 hsh
      have ei : i = p.length := by omega
      have hfin : Q (.inl (some (.int (zI (b + (i : Int)))))) (sA μ m1 l) := by
        rw [ei, List.take_length] at hcd
        rw [ei] at hsh ⊢
        exact hk m1 hcd f1 hsh
      have h0 : (sk i).length = 0 := by
        have h1 := flat_len (sk1 i (by omega)).2.1
        rw [(sk1 i (by omega)).1, ei, List.drop_length] at h1
        have : (sk p.length).length ≤ 0 := h1
        rw [ei]
        omega
      refine K85_16 s1 s2 hq x1' x2' hE ⟨⟨by omega, by omega⟩, fun _ => hfin, fun _ => ⟨⟨by omega, by omega⟩, fun _ => hfin, fun z => absurd (by omega) z⟩⟩
    | succ g ih =>
      intro i m1 o7 o8 hi hpl hcd f1 hsh
      have hil : i < p.length := by omega
      obtain ⟨w, ps, rest, k1', k4, k2', k3', k5⟩ := sk2 i hil
      obtain ⟨f1', g1', _⟩ := sk1 i (by omega)
      have hfl := flat_len g1'
      rw [f1', List.length_drop] at hfl
      have hlen : (sk i).length = rest.length + 1 := by rw [k1', List.length_cons]
      have hfl2 := flat_len (sk1 (i + 1) (by omega)).2.1
      rw [(sk1 (i + 1) (by omega)).1, List.length_drop, k3', List.length_append] at hfl2
      obtain ⟨t, t1, t2, t3⟩ := hpl 0 (by omega)
      rw [show ((sk i).length : Int) - 1 - ((0 : Nat) : Int) = (rest.length : Int) by omega] at t1
      rw [k1', gD_c0] at t3
      obtain ⟨ff, hff⟩ := GdC_f k2'
      obtain ⟨c1, c2, c3⟩ := Cg_un (fun x hx => (hff x hx).1) t3
      have r0 := (hX.1 _ _ c1).1
      have r1 := hX2 _ _ c1
      refine K85_16 s1 s2 hq x1' x2' hE ?_
      rw [show ((sk i).length : Int) - 1 = (rest.length : Int) by omega, t1, c2]
      refine ⟨⟨by omega, by omega⟩, fun z => absurd z (by omega), fun _ => ⟨⟨by omega, by omega⟩, fun z => absurd z (by omega), fun _ => ⟨⟨by omega, by omega⟩, ⟨by omega, by omega⟩, ⟨by omega, by omega⟩, ⟨by omega, by omega⟩, ⟨by omega, by omega⟩, fun m2 e2 v2 ev2 => ?_⟩⟩⟩
      have f2 : ∀ c j, ¬ (c = 112 ∨ (c = e ∧ b ≤ j ∧ j < b + (p.length : Int))) → m2 c j = m c j := fun c j z => by rw [e2, up_o (by omega)]; exact f1 c j z
      have hcd2 : CdR X m2 e b (p.take (i + 1)) := fun k hk => by
        rw [List.length_take] at hk
        have eg : (p.take (i + 1)).getD k (0, []) = p.getD k (0, []) := by rw [List.getD_eq_getElem?_getD, List.getElem?_take_of_lt (by omega), ← List.getD_eq_getElem?_getD]
        rw [eg]
        by_cases y : k = i
        · rw [y, k5]
          refine ⟨m1 q (t : Int), c1, k4, ?_⟩
          rw [e2, up_s]
        · obtain ⟨x, y1, y2, y3⟩ := hcd k (by rw [List.length_take]; omega)
          have eg2 : (p.take i).getD k (0, []) = p.getD k (0, []) := by rw [List.getD_eq_getElem?_getD, List.getElem?_take_of_lt (by omega), ← List.getD_eq_getElem?_getD]
          rw [eg2] at y1 y2 y3
          exact ⟨x, y1, y2, by rw [e2, up_i (by omega)]; exact y3⟩
      have hsh2 : ∀ j, b ≤ j → j < b + (i : Int) + 1 → 0 ≤ m2 e j ∧ m2 e j ≤ 32767 := fun j j1 j2 => by
        by_cases y : j = b + (i : Int)
        · rw [y, e2, up_s]
          exact ⟨by omega, by omega⟩
        · rw [e2, up_i (by omega)]
          exact hsh j j1 (by omega)
      have cg12 : ∀ t cs, t < T → Cg X q m1 t cs → Cg X q m2 t cs := fun t cs ht h => CgR_cg (T := T) (fun t _ => ⟨(f2 _ _ (by omega)).trans (f1 _ _ (by omega)).symm, (f2 _ _ (by omega)).trans (f1 _ _ (by omega)).symm, fun i _ => (f2 _ _ (by omega)).trans (f1 _ _ (by omega)).symm⟩) _ t cs ht h
      have inner : ∀ (h : Nat) (k : Int) (m3 : PM), k = (h : Int) - 1 → h ≤ ps.length → (∀ c j, ¬ c = 112 → m3 c j = m2 c j) → (∀ j : Nat, j < rest.length → m3 112 (j : Int) = m2 112 (j : Int)) → (∀ j : Nat, j + h < ps.length → m3 112 ((rest.length : Int) + (j : Int)) = m (q + 2) (4 * (t : Int) + ((ps.length - 1 - j : Nat) : Int))) → Wp d 85 (80, [some (.ref 107), some (.int (zI (u : Int))), some (.int (zI b)), some (.ref 84), some (.int (zI (b + (i : Int) + 1))), some (.int (zI ((rest.length : Int) + ((ps.length - h : Nat) : Int)))), some (.int (zI (i : Int))), some (.int (zI (t : Int))), some (.int (zI k))], [], sA μ m3 l) Q := by
        intro h
        induction h with
        | zero =>
          intro k m3 ek hh f3 hr hd
          refine K85_80 s1 s2 hq x1' x2' hE ⟨⟨by omega, by omega⟩, fun _ => ?_, fun z => absurd (by omega) z⟩
          have f3' : ∀ c j, ¬ (c = 112 ∨ (c = e ∧ b ≤ j ∧ j < b + (p.length : Int))) → m3 c j = m c j := fun c j z => (f3 c j (fun y => z (Or.inl y))).trans (f2 c j z)
          have cg23 : ∀ t cs, t < T → Cg X q m2 t cs → Cg X q m3 t cs := fun t cs ht h => CgR_cg (T := T) (fun t _ => ⟨f3 _ _ (by omega), f3 _ _ (by omega), fun i _ => f3 _ _ (by omega)⟩) _ t cs ht h
          have go := ih (i + 1) m3 (some (.int (zI (t : Int)))) (some (.int (zI k))) (by omega) (fun j hj => ?_) (fun k' hk' => ?_) f3' (fun j j1 j2 => by rw [f3 _ _ (by omega)]; exact hsh2 j j1 (by omega))
          · rw [k3', List.length_append] at go
            rw [show b + ((i + 1 : Nat) : Int) = b + (i : Int) + 1 by omega, show ((ps.length + rest.length : Nat) : Int) = (rest.length : Int) + ((ps.length - 0 : Nat) : Int) by omega, show ((i + 1 : Nat) : Int) = (i : Int) + 1 by omega] at go
            exact go
          · rw [k3', List.length_append] at hj ⊢
            by_cases y : j < ps.length
            · rw [gD_a1 y]
              obtain ⟨v, v1, v2, v3⟩ := c3 j y
              have hdj := hd (ps.length - 1 - j) (by omega)
              rw [show ps.length - 1 - (ps.length - 1 - j) = j by omega] at hdj
              refine ⟨v, ?_, by omega, cg23 _ _ (by omega) (cg12 _ _ (by omega) v3)⟩
              rw [show ((ps.length + rest.length : Nat) : Int) - 1 - (j : Int) = (rest.length : Int) + ((ps.length - 1 - j : Nat) : Int) by omega, hdj, ← v1]
              exact (f1 _ _ (by omega)).symm
            · obtain ⟨j', rfl⟩ : ∃ j', j = ps.length + j' := ⟨j - ps.length, by omega⟩
              rw [gD_a2]
              obtain ⟨v, v1, v2, v3⟩ := hpl (j' + 1) (by omega)
              rw [k1', gD_cs] at v3
              refine ⟨v, ?_, v2, cg23 _ _ v2 (cg12 _ _ v2 v3)⟩
              rw [show ((ps.length + rest.length : Nat) : Int) - 1 - ((ps.length + j' : Nat) : Int) = ((rest.length - 1 - j' : Nat) : Int) by omega, hr _ (by omega), e2, up_o (by omega), ← v1]
              congr 1
              omega
          · obtain ⟨x, y1, y2, y3⟩ := hcd2 k' hk'
            exact ⟨x, y1, y2, by rw [f3 _ _ (by omega)]; exact y3⟩
        | succ h ihh =>
          intro k m3 ek hh f3 hr hd
          have ek' : k = (h : Int) := by omega
          obtain ⟨v, v1, v2, v3⟩ := c3 h (by omega)
          have e3 : m3 (q + 2) (4 * (t : Int) + (h : Int)) = m (q + 2) (4 * (t : Int) + (h : Int)) := (f3 _ _ (by omega)).trans (f2 _ _ (by omega))
          refine K85_80 s1 s2 hq x1' x2' hE ⟨⟨by omega, by omega⟩, fun z => absurd z (by omega), fun _ => ?_⟩
          rw [ek', e3]
          refine ⟨⟨by omega, by omega⟩, ⟨by omega, by omega⟩, fun m4 e4 => ?_⟩
          have go := ihh ((h : Int) - 1) m4 rfl (by omega) (fun c j z => by rw [e4, up_c z]; exact f3 c j z) (fun j hj => by rw [e4, up_i (by omega)]; exact hr j hj) (fun j hj => ?_)
          · rw [show (rest.length : Int) + ((ps.length - h : Nat) : Int) = (rest.length : Int) + ((ps.length - (h + 1) : Nat) : Int) + 1 by omega] at go
            exact go
          · by_cases y : j + (h + 1) < ps.length
            · rw [e4, up_i (by omega)]
              exact hd j y
            · rw [e4, show (rest.length : Int) + (j : Int) = (rest.length : Int) + ((ps.length - (h + 1) : Nat) : Int) by omega, up_s]
              congr 2
              omega
      have go := inner ps.length ((ps.length : Int) - 1) m2 rfl (Nat.le_refl _) (fun _ _ _ => rfl) (fun _ _ => rfl) (fun j hj => absurd hj (by omega))
      rw [show (rest.length : Int) + ((ps.length - ps.length : Nat) : Int) = (rest.length : Int) by omega] at go
      rw [ev2]
      exact go
  refine K85_0 s1 s2 hq x1' x2' hE (fun m1 e1 => ?_)
  have f1 : ∀ c j, ¬ (c = 112 ∨ (c = e ∧ b ≤ j ∧ j < b + (p.length : Int))) → m1 c j = m c j := fun c j z => by rw [e1, up_o (by omega)]
  have go := loop p.length 0 m1 none none (by omega) (fun j hj => ?_) (fun k hk' => absurd hk' (by rw [List.take_zero]; exact Nat.not_lt_zero k)) f1 (fun j j1 j2 => absurd j1 (by omega))
  · rw [sk0] at go
    rw [show b + ((0 : Nat) : Int) = b by omega] at go
    exact go
  · rw [sk0] at hj ⊢
    have ej : j = 0 := by
      have : j < 1 := hj
      omega
    rw [ej]
    refine ⟨u, ?_, hu, cgf f1 _ _ hu cu⟩
    rw [e1]
    show up m 112 0 (u : Int) 112 (((1 : Nat) : Int) - 1 - ((0 : Nat) : Int)) = _
    rw [show ((1 : Nat) : Int) - 1 - ((0 : Nat) : Int) = 0 by omega, up_s]
end CST
