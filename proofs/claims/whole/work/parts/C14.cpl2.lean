/-! ===== the class's plan: groups ===== -/
/-- the numbers below r of which it is so, in order -/
noncomputable def fL (P : Nat → Prop) : Nat → List Nat
  | 0 => []
  | r + 1 => cif (P r) (fL P r ++ [r]) (fL P r)
theorem fL_p {P : Nat → Prop} {r : Nat} (h : P r) : fL P (r + 1) = fL P r ++ [r] := by
  show cif (P r) (fL P r ++ [r]) (fL P r) = _
  exact cif_p h
theorem fL_n {P : Nat → Prop} {r : Nat} (h : ¬ P r) : fL P (r + 1) = fL P r := by
  show cif (P r) (fL P r ++ [r]) (fL P r) = _
  exact cif_n h
theorem fL_le (P : Nat → Prop) : ∀ r : Nat, (fL P r).length ≤ r := by
  intro r
  induction r with
  | zero => exact Nat.le_refl _
  | succ r ih =>
    by_cases h : P r
    · rw [fL_p h]; simp; exact ih
    · rw [fL_n h]; omega
theorem fL_mo (P : Nat → Prop) : ∀ n r : Nat, r ≤ n → (fL P r).length ≤ (fL P n).length := by
  intro n
  induction n with
  | zero => intro r h; have : r = 0 := by omega
            rw [this]; exact Nat.le_refl _
  | succ n ih =>
    intro r h
    by_cases c : r = n + 1
    · rw [c]; exact Nat.le_refl _
    · have z := ih r (by omega)
      by_cases q : P n
      · rw [fL_p q]; simp; omega
      · rw [fL_n q]; exact z
theorem fL_mem {P : Nat → Prop} : ∀ (n q : Nat), q ∈ fL P n ↔ (q < n ∧ P q) := by
  intro n
  induction n with
  | zero => intro q; exact ⟨fun z => absurd z List.not_mem_nil, fun z => absurd z.1 (Nat.not_lt_zero q)⟩
  | succ n ih =>
    intro q
    by_cases h : P n
    · rw [fL_p h, List.mem_append, List.mem_singleton, ih q]
      constructor
      · rintro (z | z)
        · exact ⟨by omega, z.2⟩
        · rw [z]; exact ⟨by omega, h⟩
      · rintro ⟨z1, z2⟩
        by_cases c : q = n
        · exact Or.inr c
        · exact Or.inl ⟨by omega, z2⟩
    · rw [fL_n h, ih q]
      constructor
      · rintro ⟨z1, z2⟩; exact ⟨by omega, z2⟩
      · rintro ⟨z1, z2⟩
        by_cases c : q = n
        · rw [c] at z2; exact absurd z2 h
        · exact ⟨by omega, z2⟩
/-- numbers of two kinds -/
theorem fL_dj {P Q R : Nat → Prop} (hR : ∀ r, R r ↔ (P r ∨ Q r)) (hd : ∀ r, P r → ¬ Q r) : ∀ n : Nat, (fL P n).length + (fL Q n).length = (fL R n).length := by
  intro n
  induction n with
  | zero => rfl
  | succ n ih =>
    by_cases p : P n
    · rw [fL_p p, fL_n (hd n p), fL_p ((hR n).mpr (Or.inl p))]
      simp
      omega
    · by_cases q : Q n
      · rw [fL_n p, fL_p q, fL_p ((hR n).mpr (Or.inr q))]
        simp
        omega
      · rw [fL_n p, fL_n q, fL_n (fun z => by
          rcases (hR n).mp z with y | y
          · exact p y
          · exact q y)]
        exact ih
/-- the bit of a rule's head -/
def hbt (s : Nat) (m : PM) (r : Nat) : Nat := (m 67 (m (s + 6) (m (s + 11) (r : Int)))).toNat
/-- rules of a group, plain and recursive ones -/
def Gp (s : Nat) (rs : List Rul) (m l : PM) (b : Nat) (v : Int) (r : Nat) : Prop := sm l b (hbt s m r) ∧ bP (Rec rs r) = v
/-- rules of the groups of B -/
def PB (s : Nat) (m l : PM) (B : List Nat) (r : Nat) : Prop := ∃ b, b ∈ B ∧ sm l b (hbt s m r)
/-- what placing rules may write, from a place on -/
abbrev WPl (s : Nat) (w : Int) (c : Nat) (j : Int) : Prop := c = 69 ∨ c = s + 14 ∨ (c = s + 17 ∧ w ≤ j)
section CP14
variable {d : Nat} {μ : am_Mem} {s : Nat} {X : Int → List Int → Prop} {rs : List Rul} {l : PM} {h : Nat}
theorem hbt_v {m : PM} (hv : KV X s m rs) (hR : RLt X rs m l h) {r : Nat} (hr : r < rs.length) : m 67 (m (s + 6) (m (s + 11) (r : Int))) = (hbt s m r : Int) ∧ hbt s m r < h := by
  obtain ⟨a1, a2, a3, a4, a5⟩ := KV_head hv hr
  have z := hR.1.2.2.2.1 _ _ a3 ⟨r, hr, rfl⟩
  unfold hbt
  omega
theorem RLt_cg {m m' : PM} (k : ∀ c j, c = 67 ∨ (c = 65 ∧ j = 4) → m' c j = m c j) (hR : RLt X rs m l h) : RLt X rs m' l h := by
  have e67 : ∀ x, m' 67 x = m 67 x := fun x => k _ _ (Or.inl rfl)
  have hBN : ∀ b w, BN X m' b w ↔ BN X m b w := fun b w => ⟨fun ⟨x, hx, e⟩ => ⟨x, hx, by rw [← e67]; exact e⟩, fun ⟨x, hx, e⟩ => ⟨x, hx, by rw [e67]; exact e⟩⟩
  obtain ⟨⟨a1, a2, a3, a4, a5, a6, a7, a8⟩, n1, n2⟩ := hR
  refine ⟨⟨by rw [k _ _ (Or.inr ⟨rfl, rfl⟩)]; exact a1, a2, fun x => by rw [e67]; exact a3 x, fun x w => by rw [e67]; exact a4 x w, by rw [e67, e67]; exact a5, fun x y => by rw [e67, e67]; exact a6 x y, fun x w => by rw [e67]; exact a7 x w, fun b hb => ?_⟩, fun b i hb hi => ?_, n2⟩
  · obtain ⟨x, w, g1, g2, g3⟩ := a8 b hb
    exact ⟨x, w, g1, g2, by rw [e67]; exact g3⟩
  · rw [n1 b i hb hi]
    constructor
    · rintro ⟨w, w', g1, g2, g3⟩; exact ⟨w, w', (hBN _ _).mpr g1, (hBN _ _).mpr g2, g3⟩
    · rintro ⟨w, w', g1, g2, g3⟩; exact ⟨w, w', (hBN _ _).mp g1, (hBN _ _).mp g2, g3⟩
theorem pr_6 {m0 : PM} {b : Nat} {v : Int} {w : Int} {Q : Option Value ⊕ Nat → am_Mem → Prop} (H : CS μ) (hs : s = 22 ∨ s = 42) (hS : am_F μ 65 1 = s) (hb : b < h) (hv2 : v = 0 ∨ v = 1) (hw : 0 ≤ w) (hcap : w + ((fL (Gp s rs m0 l b v) rs.length).length : Int) ≤ (rs.length : Int)) (hv0 : KV X s m0 rs) (hR0 : RLt X rs m0 l h) (hq : ∀ m, (∀ c j, ¬ WPl s w c j → m c j = m0 c j) → (∀ i : Nat, i < (fL (Gp s rs m0 l b v) rs.length).length → m (s + 17) (w + (i : Int)) = ((fL (Gp s rs m0 l b v) rs.length).getD i 0 : Int)) → (∀ c, c < h → m 69 (c : Int) = cif (∃ r, r < rs.length ∧ Gp s rs m0 l b v r ∧ hbt s m0 r = c) 1 (m0 69 (c : Int))) → (∀ r, r < rs.length → (Gp s rs m0 l b v r ∨ LT s rs m0 r 0) → LT s rs m r 0) → Q (.inl (some (.int (zI (w + ((fL (Gp s rs m0 l b v) rs.length).length : Int)))))) (sA μ m l)) : ∀ (f r : Nat) (m : PM) (o6 : Option Value), r + f = rs.length → (∀ c j, ¬ WPl s w c j → m c j = m0 c j) → (∀ i : Nat, i < (fL (Gp s rs m0 l b v) r).length → m (s + 17) (w + (i : Int)) = ((fL (Gp s rs m0 l b v) r).getD i 0 : Int)) → (∀ c, c < h → m 69 (c : Int) = cif (∃ q, q < r ∧ Gp s rs m0 l b v q ∧ hbt s m0 q = c) 1 (m0 69 (c : Int))) → (∀ q, q < rs.length → ((q < r ∧ Gp s rs m0 l b v q) ∨ LT s rs m0 q 0) → LT s rs m q 0) → Wp (d + 3) 23 (6, [some (.ref 65), some (.int (zI (b : Int))), some (.int (zI v)), some (.int (zI w)), some (.int (zI (w + ((fL (Gp s rs m0 l b v) r).length : Int)))), some (.int (zI (r : Int))), o6], [], sA μ m l) Q := by
  have h60 := hR0.1.2.1
  intro f
  induction f with
  | zero =>
    intro r m o6 hf fr hO h69 hL
    have er : r = rs.length := by omega
    have hv : KV X s m rs := KV_cg (fun c j q => fr c j (by omega)) hv0
    obtain ⟨n1, n2, n3, n4⟩ := KV_n hv
    rw [er] at hO h69 hL ⊢
    exact K23_6 H hs hS ⟨by unfold iR; omega, by unfold iR; omega, fun _ => hq m fr hO h69 (fun q hq' z => hL q hq' (by
      rcases z with z | z
      · exact Or.inl ⟨hq', z⟩
      · exact Or.inr z)), fun z => absurd (by omega) z⟩
  | succ f ih =>
    intro r m o6 hf fr hO h69 hL
    have hr : r < rs.length := by omega
    have hv : KV X s m rs := KV_cg (fun c j q => fr c j (by omega)) hv0
    have hR : RLt X rs m l h := RLt_cg (fun c j q => fr c j (by omega)) hR0
    obtain ⟨n1, n2, n3, n4⟩ := KV_n hv
    obtain ⟨a1, a2, a3, a4, a5⟩ := KV_head hv hr
    obtain ⟨g1, g2⟩ := hbt_v hv hR hr
    have ehb : hbt s m r = hbt s m0 r := by
      unfold hbt
      rw [fr 67 _ (by omega), fr (s + 6) _ (by omega), fr (s + 11) _ (by omega)]
    have e : (r : Int) + 1 = ((r + 1 : Nat) : Int) := by omega
    have skip : ¬ Gp s rs m0 l b v r → ∀ o6 : Option Value, Wp (d + 3) 23 (6, [some (.ref 65), some (.int (zI (b : Int))), some (.int (zI v)), some (.int (zI w)), some (.int (zI (w + ((fL (Gp s rs m0 l b v) r).length : Int)))), some (.int (zI ((r : Int) + 1))), o6], [], sA μ m l) Q := by
      intro hno o6
      have z := ih (r + 1) m o6 (by omega) fr (by rw [fL_n hno]; exact hO) (fun c hc => ?_) (fun q hq' y => ?_)
      · rw [fL_n hno, ← e] at z
        exact z
      · rw [h69 c hc]
        have eq : (∃ q, q < r ∧ Gp s rs m0 l b v q ∧ hbt s m0 q = c) ↔ (∃ q, q < r + 1 ∧ Gp s rs m0 l b v q ∧ hbt s m0 q = c) := ⟨fun ⟨q, z1, z2⟩ => ⟨q, by omega, z2⟩, fun ⟨q, z1, z2, z3⟩ => ⟨q, by
          by_cases cq : q = r
          · rw [cq] at z2; exact absurd z2 hno
          · omega, z2, z3⟩⟩
        rw [propext eq]
      · refine hL q hq' ?_
        rcases y with ⟨y1, y2⟩ | y
        · refine Or.inl ⟨?_, y2⟩
          by_cases cq : q = r
          · rw [cq] at y2; exact absurd y2 hno
          · omega
        · exact Or.inr y
    refine K23_6 H hs hS ⟨by unfold iR; omega, by unfold iR; omega, fun z => absurd z (by omega), fun _ => ⟨by omega, by omega, fun v1 e1 => ?_⟩⟩
    rw [e1]
    refine ⟨a4, ?_⟩
    rw [g1]
    refine ⟨_, noX, k_sameGroup H hs hS (by omega) (by omega), fun y μ' hy => ?_, fun _ _ z => z.elim⟩
    obtain ⟨rfl, rfl⟩ := hy
    refine K23_38 H hs hS ⟨bP_R _, fun z => skip (fun y => ?_) _, fun z => ?_⟩
    · rw [ehb] at z
      exact bP_z.mp z y.1
    have hsm : sm l b (hbt s m0 r) := by
      rw [← ehb]
      exact Classical.byContradiction fun y => z (bP_z.mpr y)
    refine ⟨_, noX, k_isRecursive H hs hS hv hR hr, fun y μ' hy => ?_, fun _ _ z => z.elim⟩
    obtain ⟨rfl, rfl⟩ := hy
    have hbb := bP_b (Rec rs r)
    refine K23_47 H hs hS ⟨bP_R _, by unfold iR; omega, fun z2 => skip (fun y => z2 y.2) _, fun z2 => ?_⟩
    have hG : Gp s rs m0 l b v r := ⟨hsm, Decidable.byContradiction z2⟩
    have hlen : (fL (Gp s rs m0 l b v) (r + 1)).length = (fL (Gp s rs m0 l b v) r).length + 1 := by rw [fL_p hG]; simp
    have hmo := fL_mo (Gp s rs m0 l b v) rs.length (r + 1) (by omega)
    refine ⟨by omega, by omega, fun m1 em1 => ?_⟩
    have k1 : ∀ c j, ¬ ((c = 69 ∧ j = (hbt s m r : Int)) ∨ (c = s + 17 ∧ j = w + ((fL (Gp s rs m0 l b v) r).length : Int))) → m1 c j = m c j := fun c j q => by rw [em1, up_o (by omega), up_o (by omega)]
    have hv1 : KV X s m1 rs := KV_cg (fun c j q => k1 c j (by omega)) hv
    refine ⟨_, noX, k_findLater H hs hS hv1 hr, fun μ' hp => ?_, fun _ _ z => z.elim⟩
    obtain ⟨m2, rfl, fr2, hL2⟩ := hp
    refine K23_80 H hs hS ?_
    have fr' : ∀ c j, ¬ WPl s w c j → m2 c j = m0 c j := fun c j q => by rw [fr2 c j (by omega), k1 c j (by omega)]; exact fr c j q
    have z := ih (r + 1) m2 (some (.int (zI (hbt s m r : Int)))) (by omega) fr' (fun i hi => ?_) (fun c hc => ?_) (fun q hq' y => ?_)
    · rw [hlen, show w + (((fL (Gp s rs m0 l b v) r).length + 1 : Nat) : Int) = w + ((fL (Gp s rs m0 l b v) r).length : Int) + 1 by omega, ← e] at z
      exact z
    · rw [fr2 _ _ (by omega), fL_p hG]
      by_cases ci : i = (fL (Gp s rs m0 l b v) r).length
      · rw [ci, getD_r, em1, up_s]
      · rw [getD_l _ _ _ (by omega), k1 _ _ (by omega)]
        exact hO i (by omega)
    · rw [fr2 _ _ (by omega)]
      by_cases cc : c = hbt s m r
      · have hex : ∃ q, q < r + 1 ∧ Gp s rs m0 l b v q ∧ hbt s m0 q = c := ⟨r, by omega, hG, by rw [cc, ehb]⟩
        rw [cif_p hex, cc, em1, up_o (by omega), up_s]
      · rw [k1 _ _ (by omega), h69 c hc]
        have eq : (∃ q, q < r ∧ Gp s rs m0 l b v q ∧ hbt s m0 q = c) ↔ (∃ q, q < r + 1 ∧ Gp s rs m0 l b v q ∧ hbt s m0 q = c) := ⟨fun ⟨q, z1, z2⟩ => ⟨q, by omega, z2⟩, fun ⟨q, z1, z2, z3⟩ => ⟨q, by
          by_cases cq : q = r
          · rw [cq, ← ehb] at z3; exact absurd z3.symm cc
          · omega, z2, z3⟩⟩
        rw [propext eq]
    · by_cases cq : q = r
      · rw [cq]; exact hL2
      · have hq2 : LT s rs m q 0 := hL q hq' (by
          rcases y with ⟨y1, y2⟩ | y
          · exact Or.inl ⟨by omega, y2⟩
          · exact Or.inr y)
        obtain ⟨_, _, _, _, k5, k6⟩ := KV_rule hv hq'
        intro j h1 h2
        obtain ⟨u, u1, u2⟩ := hq2 j h1 h2
        exact ⟨u, by rw [fr2 _ _ (by omega), k1 _ _ (by omega)]; exact u1, u2⟩
end CP14
