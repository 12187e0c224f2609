/-! ===== the class's calls about the states that are known ===== -/
/-- the states are known -/
def XkC (rs : List Rul) (m : PM) (sts : List (List (List Cd))) (nx : List (List Nat)) : Prop := m 16 17 = 1 ∧ TbC m (rlS rs).length sts.length (fun i => ovO rs (rlS rs) (sts.getD i [])) (fun i => glX rs (rlS rs) (sts.getD i [])) (fun i => mnX rs (rlS rs) (sts.getD i [])) nx ∧ (∀ i : Nat, i < sts.length → m 113 (i : Int) = ((sts.getD i []).length : Int)) ∧ DfP (rlS rs).length sts.length (fun i => ovO rs (rlS rs) (sts.getD i [])) (fun i => glX rs (rlS rs) (sts.getD i [])) (fun i => mnX rs (rlS rs) (sts.getD i [])) nx (m 106 13) (m 106 14) ∧ (m 106 13 = 0 → VaP sts.length (fun i => ovO rs (rlS rs) (sts.getD i [])) (fun i => glX rs (rlS rs) (sts.getD i [])) (fun i => mnX rs (rlS rs) (sts.getD i [])) nx (fun b => m 121 (b : Int)) ∧ ∀ i : Nat, i < sts.length → (0 ≤ m 121 (i : Int) ∧ m 121 (i : Int) ≤ 100) ∧ BsI (fun b => m 121 (b : Int)) (m 121 (i : Int)) (nx.getD i []) (m 122 (i : Int)))
/-- what is known of the states -/
def XpC (rs : List Rul) (m : PM) : Option (List (List (List Cd)) × List (List Nat)) → Prop
  | none => m 16 17 = 0 ∨ (m 16 17 = 2 ∧ xO rs (rlS rs) = none)
  | some p => XkC rs m p.1 p.2
section CXP
variable {d : Nat} {Q : Option Value ⊕ Nat → am_Mem → Prop} {rs : List Rul} {μ : am_Mem} {m l : PM} {xp : Option (List (List (List Cd)) × List (List Nat))} {x y : Int}
theorem k_needKn (H : CS μ) (hX : XpC rs m xp) (h1 : xp = none → Q (.inr 1) (sA (am_nX μ) m l)) (hok : ∀ sts nx, xp = some (sts, nx) → XkC rs m sts nx → Q (.inl none) (sA μ m l)) : Wp d 140 (0, [some (.ref 16)], [], sA μ m l) Q := by
  cases xp with
  | none =>
    have hX' : m 16 17 = 0 ∨ (m 16 17 = 2 ∧ xO rs (rlS rs) = none) := hX
    refine K140_0 H ⟨⟨by omega, by omega⟩, fun z => absurd z (by omega), fun _ => h1 rfl⟩
  | some p =>
    have hX' : XkC rs m p.1 p.2 := hX
    have e := hX'.1
    exact K140_0 H ⟨by rw [e]; exact iR_1, fun _ => hok p.1 p.2 rfl hX', fun z => absurd e z⟩
theorem k_needNr {sts : List (List (List Cd))} {nx : List (List Nat)} (H : CS μ) (hX : XkC rs m sts nx) (hx : iR x) (h2 : ¬ (0 ≤ x ∧ x < (sts.length : Int)) → Q (.inr 2) (sA (am_nX μ) m l)) (hok : (0 ≤ x ∧ x < (sts.length : Int)) → Q (.inl none) (sA μ m l)) : Wp d 142 (0, [some (.ref 16), some (.int (zI x))], [], sA μ m l) Q := by
  obtain ⟨⟨_, e1, h300⟩, _⟩ := hX.2.1
  refine K142_0 H ⟨hx, fun z => h2 (fun w => absurd w.1 (by omega)), fun z => ⟨by rw [e1]; exact ⟨by omega, by omega⟩, fun w => hok ⟨by omega, by rw [e1] at w; exact w⟩, fun w => h2 (fun v => w (by rw [e1]; exact v.2))⟩⟩
theorem k_needSd (H : CS μ) (hX : XpC rs m xp) (h1 : (∀ sts nx, xp = some (sts, nx) → ¬ m 106 13 = 0) → Q (.inr 1) (sA (am_nX μ) m l)) (hok : ∀ sts nx, xp = some (sts, nx) → XkC rs m sts nx → m 106 13 = 0 → Q (.inl none) (sA μ m l)) : Wp d 145 (0, [some (.ref 16)], [], sA μ m l) Q := by
  cases xp with
  | none =>
    have hX' : m 16 17 = 0 ∨ (m 16 17 = 2 ∧ xO rs (rlS rs) = none) := hX
    exact K145_0 H ⟨⟨by omega, by omega⟩, fun _ => h1 (fun _ _ z => nomatch z), fun z => absurd (Classical.byContradiction z) (by omega)⟩
  | some p =>
    have hX' : XkC rs m p.1 p.2 := hX
    have e := hX'.1
    have hr := df_R hX'.2.2.2.1 hX'.2.1.1.2.2
    exact K145_0 H ⟨by rw [e]; exact iR_1, fun z => absurd e z, fun _ => ⟨⟨by omega, by omega⟩, fun z => hok p.1 p.2 rfl hX' z, fun z => h1 (fun _ _ _ => z)⟩⟩
theorem kl_defect (H : CS μ) (hx : iR x) (hX : XpC rs m xp)
    (h1 : xp = none → Q (.inr 1) (sA (am_nX μ) m l))
    (h2 : ∀ sts nx, xp = some (sts, nx) → ¬ (0 ≤ x ∧ x ≤ 1) → Q (.inr 0) (sA (am_nX μ) m l))
    (hok : ∀ sts nx, xp = some (sts, nx) → (0 ≤ x ∧ x ≤ 1) → Q (.inl (some (.int (zI (if x = 0 then m 106 13 else m 106 14))))) (sA μ m l)) :
    Wp (d + 1) 139 (0, [some (.ref 16), some (.int (zI x))], [], sA μ m l) Q := by
  refine K139_0 H ⟨fun μ' => Wp (d + 1) 139 (4, [some (.ref 16), some (.int (zI x))], [], μ') Q, fun x μ' => Q (.inr x) μ', k_needKn H hX h1 (fun sts nx e hk => ?_), fun _ h => h, fun _ _ h => h⟩
  show Wp (d + 1) 139 (4, [some (.ref 16), some (.int (zI x))], [], sA μ m l) Q
  refine K139_4 H ⟨hx, fun z v1 ev => ?_, fun z => ⟨fun z2 v1 ev => ?_, fun z2 => h2 sts nx e (by omega)⟩⟩
  · have := hok sts nx e (by omega)
    rw [if_pos z] at this
    rw [if_neg (fun h => h z)] at ev
    rw [ev]
    exact this
  · have := hok sts nx e (by omega)
    rw [if_neg z] at this
    rw [if_pos z] at ev
    rw [ev]
    exact this
theorem kl_state (H : CS μ) (hx : iR x) (hy : iR y) (hX : XpC rs m xp)
    (h1 : xp = none → Q (.inr 1) (sA (am_nX μ) m l))
    (h2 : ∀ sts nx, xp = some (sts, nx) → ¬ (0 ≤ x ∧ x < (sts.length : Int)) → Q (.inr 2) (sA (am_nX μ) m l))
    (h3 : ∀ sts nx, xp = some (sts, nx) → (0 ≤ x ∧ x < (sts.length : Int)) → ¬ (0 ≤ y ∧ y ≤ 2) → Q (.inr 0) (sA (am_nX μ) m l))
    (hok : ∀ sts nx, xp = some (sts, nx) → (0 ≤ x ∧ x < (sts.length : Int)) → (0 ≤ y ∧ y ≤ 2) → Q (.inl (some (.int (zI (if y = 0 then ((sts.getD x.toNat []).length : Int) else if y = 1 then bP (ovO rs (rlS rs) (sts.getD x.toNat [])) else ((nx.getD x.toNat []).length : Int)))))) (sA μ m l)) :
    Wp (d + 1) 141 (0, [some (.ref 16), some (.int (zI x)), some (.int (zI y))], [], sA μ m l) Q := by
  refine K141_0 H ⟨fun μ' => Wp (d + 1) 141 (4, [some (.ref 16), some (.int (zI x)), some (.int (zI y))], [], μ') Q, fun x μ' => Q (.inr x) μ', k_needKn H hX h1 (fun sts nx e hk => ?_), fun _ h => h, fun _ _ h => h⟩
  show Wp (d + 1) 141 (4, [some (.ref 16), some (.int (zI x)), some (.int (zI y))], [], sA μ m l) Q
  refine K141_4 H ⟨fun μ' => Wp (d + 1) 141 (9, [some (.ref 16), some (.int (zI x)), some (.int (zI y))], [], μ') Q, fun x μ' => Q (.inr x) μ', k_needNr H hk hx (fun z => h2 sts nx e z) (fun z => ?_), fun _ h => h, fun _ _ h => h⟩
  show Wp (d + 1) 141 (9, [some (.ref 16), some (.int (zI x)), some (.int (zI y))], [], sA μ m l) Q
  obtain ⟨k0, ⟨⟨_, _, h300⟩, k1⟩, k2, _⟩ := id hk
  obtain ⟨i, rfl⟩ : ∃ i : Nat, x = (i : Int) := ⟨x.toNat, by omega⟩
  have hi : i < sts.length := by omega
  obtain ⟨t1, ⟨t2, _⟩, _⟩ := k1 i hi
  have t3 := k2 i hi
  have ok := hok sts nx e z
  rw [Int.toNat_natCast] at ok
  refine K141_9 H ⟨hy, fun w => h3 sts nx e z (by omega), fun w => ⟨fun w2 => ⟨fun w3 => ⟨fun w4 => ⟨⟨by omega, by omega⟩, ?_⟩, fun w4 => ⟨⟨by omega, by omega⟩, by rw [t1]; exact bP_R _, fun v1 ev => ?_⟩⟩, fun w3 => ⟨⟨by omega, by omega⟩, ?_⟩⟩, fun w2 => h3 sts nx e z (by omega)⟩⟩
  · have := ok (by omega)
    rw [if_neg w3, if_neg w4] at this
    rw [t2]
    exact this
  · have y1 : y = 1 := Classical.byContradiction w4
    have := ok (by omega)
    rw [if_neg w3, if_pos y1] at this
    have ev' : v1 = bP (ovO rs (rlS rs) (sts.getD i [])) := by
      rw [t1] at ev
      rcases bP_b (ovO rs (rlS rs) (sts.getD i [])) with h | h
      · rw [h] at ev ⊢
        rw [if_pos rfl] at ev
        exact ev
      · rw [h] at ev ⊢
        rw [if_neg (by decide)] at ev
        exact ev
    rw [ev']
    exact this
  · have y0 : y = 0 := Classical.byContradiction w3
    have := ok (by omega)
    rw [if_pos y0] at this
    rw [t3]
    exact this
theorem kl_next (H : CS μ) (hx : iR x) (hy : iR y) (hX : XpC rs m xp)
    (h1 : xp = none → Q (.inr 1) (sA (am_nX μ) m l))
    (h2 : ∀ sts nx, xp = some (sts, nx) → ¬ ((0 ≤ x ∧ x < (sts.length : Int)) ∧ 0 ≤ y ∧ y < ((nx.getD x.toNat []).length : Int)) → Q (.inr 2) (sA (am_nX μ) m l))
    (hok : ∀ sts nx, xp = some (sts, nx) → ((0 ≤ x ∧ x < (sts.length : Int)) ∧ 0 ≤ y ∧ y < ((nx.getD x.toNat []).length : Int)) → Q (.inl (some (.int (zI ((nx.getD x.toNat []).getD y.toNat 0 : Int))))) (sA μ m l)) :
    Wp (d + 1) 143 (0, [some (.ref 16), some (.int (zI x)), some (.int (zI y))], [], sA μ m l) Q := by
  refine K143_0 H ⟨fun μ' => Wp (d + 1) 143 (4, [some (.ref 16), some (.int (zI x)), some (.int (zI y))], [], μ') Q, fun x μ' => Q (.inr x) μ', k_needKn H hX h1 (fun sts nx e hk => ?_), fun _ h => h, fun _ _ h => h⟩
  show Wp (d + 1) 143 (4, [some (.ref 16), some (.int (zI x)), some (.int (zI y))], [], sA μ m l) Q
  refine K143_4 H ⟨fun μ' => Wp (d + 1) 143 (9, [some (.ref 16), some (.int (zI x)), some (.int (zI y))], [], μ') Q, fun x μ' => Q (.inr x) μ', k_needNr H hk hx (fun z => h2 sts nx e (fun w => z w.1)) (fun z => ?_), fun _ h => h, fun _ _ h => h⟩
  show Wp (d + 1) 143 (9, [some (.ref 16), some (.int (zI x)), some (.int (zI y))], [], sA μ m l) Q
  obtain ⟨k0, ⟨⟨_, _, h300⟩, k1⟩, k2, _⟩ := id hk
  obtain ⟨i, rfl⟩ : ∃ i : Nat, x = (i : Int) := ⟨x.toNat, by omega⟩
  have hi : i < sts.length := by omega
  obtain ⟨t1, ⟨t2, t2'⟩, t3, _⟩ := k1 i hi
  have ok := hok sts nx e
  have no := h2 sts nx e
  rw [Int.toNat_natCast] at ok no
  refine K143_9 H ⟨hy, fun w => no (fun v => absurd v.2.1 (by omega)), fun w => ⟨⟨by omega, by omega⟩, by rw [t2]; exact ⟨by omega, by omega⟩, fun w2 => ?_, fun w2 => no (fun v => w2 (by rw [t2]; exact v.2.2))⟩⟩
  rw [t2] at w2
  obtain ⟨j, rfl⟩ : ∃ j : Nat, y = (j : Int) := ⟨y.toNat, by omega⟩
  have ok' := ok ⟨z, by omega, w2⟩
  rw [Int.toNat_natCast] at ok'
  refine ⟨⟨by omega, by omega⟩, ?_⟩
  rw [t3 j (by omega)]
  exact ok'
theorem kl_value (H : CS μ) (hx : iR x) (hX : XpC rs m xp)
    (h1 : (∀ sts nx, xp = some (sts, nx) → ¬ m 106 13 = 0) → Q (.inr 1) (sA (am_nX μ) m l))
    (h2 : ∀ sts nx, xp = some (sts, nx) → m 106 13 = 0 → ¬ (0 ≤ x ∧ x < (sts.length : Int)) → Q (.inr 2) (sA (am_nX μ) m l))
    (hok : ∀ sts nx, xp = some (sts, nx) → m 106 13 = 0 → (0 ≤ x ∧ x < (sts.length : Int)) → Q (.inl (some (.int (zI (m 121 x))))) (sA μ m l)) :
    Wp (d + 1) 144 (0, [some (.ref 16), some (.int (zI x))], [], sA μ m l) Q := by
  refine K144_0 H ⟨fun μ' => Wp (d + 1) 144 (4, [some (.ref 16), some (.int (zI x))], [], μ') Q, fun x μ' => Q (.inr x) μ', k_needSd H hX h1 (fun sts nx e hk h0 => ?_), fun _ h => h, fun _ _ h => h⟩
  show Wp (d + 1) 144 (4, [some (.ref 16), some (.int (zI x))], [], sA μ m l) Q
  refine K144_4 H ⟨fun μ' => Wp (d + 1) 144 (9, [some (.ref 16), some (.int (zI x))], [], μ') Q, fun x μ' => Q (.inr x) μ', k_needNr H hk hx (fun z => h2 sts nx e h0 z) (fun z => ?_), fun _ h => h, fun _ _ h => h⟩
  show Wp (d + 1) 144 (9, [some (.ref 16), some (.int (zI x))], [], sA μ m l) Q
  have h300 := hk.2.1.1.2.2
  exact K144_9 H ⟨⟨by omega, by omega⟩, hok sts nx e h0 z⟩
theorem kl_best (H : CS μ) (hx : iR x) (hX : XpC rs m xp)
    (h1 : (∀ sts nx, xp = some (sts, nx) → ¬ m 106 13 = 0) → Q (.inr 1) (sA (am_nX μ) m l))
    (h2 : ∀ sts nx, xp = some (sts, nx) → m 106 13 = 0 → ¬ (0 ≤ x ∧ x < (sts.length : Int)) → Q (.inr 2) (sA (am_nX μ) m l))
    (hok : ∀ sts nx, xp = some (sts, nx) → m 106 13 = 0 → (0 ≤ x ∧ x < (sts.length : Int)) → BsI (fun b => m 121 (b : Int)) (m 121 x) (nx.getD x.toNat []) (m 122 x) → Q (.inl (some (.int (zI (m 122 x))))) (sA μ m l)) :
    Wp (d + 1) 146 (0, [some (.ref 16), some (.int (zI x))], [], sA μ m l) Q := by
  refine K146_0 H ⟨fun μ' => Wp (d + 1) 146 (4, [some (.ref 16), some (.int (zI x))], [], μ') Q, fun x μ' => Q (.inr x) μ', k_needSd H hX h1 (fun sts nx e hk h0 => ?_), fun _ h => h, fun _ _ h => h⟩
  show Wp (d + 1) 146 (4, [some (.ref 16), some (.int (zI x))], [], sA μ m l) Q
  refine K146_4 H ⟨fun μ' => Wp (d + 1) 146 (9, [some (.ref 16), some (.int (zI x))], [], μ') Q, fun x μ' => Q (.inr x) μ', k_needNr H hk hx (fun z => h2 sts nx e h0 z) (fun z => ?_), fun _ h => h, fun _ _ h => h⟩
  show Wp (d + 1) 146 (9, [some (.ref 16), some (.int (zI x))], [], sA μ m l) Q
  have h300 := hk.2.1.1.2.2
  have hb := ((hk.2.2.2.2 h0).2 x.toNat (by omega)).2
  rw [Int.toNat_of_nonneg z.1] at hb
  exact K146_9 H ⟨⟨by omega, by omega⟩, hok sts nx e h0 z hb⟩
end CXP
