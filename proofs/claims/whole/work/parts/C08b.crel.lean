/-! ===== the class's relate ===== -/
/-- a relation that is a head's -/
def isHd (rs : List Rul) (w : List Int) : Prop := ∃ q, q < rs.length ∧ (rs.getD q ruD).1.1 = w
/-- among the first r rules -/
def isHr (rs : List Rul) (r : Nat) (w : List Int) : Prop := ∃ q, q < r ∧ (rs.getD q ruD).1.1 = w
/-- the bits of relations -/
def BT (X : Int → List Int → Prop) (rs : List Rul) (m : PM) (h : Nat) : Prop := m 65 4 = (h : Int) ∧ h ≤ 60 ∧ (∀ x, 0 ≤ x → x < 1024 → -1 ≤ m 67 x ∧ m 67 x < 62) ∧ (∀ x w, X x w → isHd rs w → 0 ≤ m 67 x ∧ m 67 x < h) ∧ (m 67 2 = 60 ∧ m 67 4 = 61) ∧ (∀ x y, 0 ≤ x → x < 1024 → 0 ≤ y → y < 1024 → m 67 x = m 67 y → ¬ m 67 x = -1 → x = y) ∧ (∀ x w, X x w → ¬ m 67 x = -1 → isHd rs w ∨ x = 2 ∨ x = 4) ∧ ∀ b : Nat, b < h → ∃ x w, X x w ∧ isHd rs w ∧ m 67 x = (b : Int)
/-- bit b is that of the relation w -/
def BN (X : Int → List Int → Prop) (m : PM) (b : Nat) (w : List Int) : Prop := ∃ x, X x w ∧ m 67 x = (b : Int)
section CRL
variable {d : Nat} {μ : am_Mem} {s : Nat} {X : Int → List Int → Prop} {rs : List Rul}
theorem rl_23 {m0 l : PM} {Q : Option Value ⊕ Nat → am_Mem → Prop} (H : CS μ) (hs : s = 22 ∨ s = 42) (hS : am_F μ 65 1 = s) (h3 : ∀ j, j < rs.length → ¬ Bad3 rs j) (hq : ∀ (m : PM) (h : Nat), (∀ c j, ¬ (c = 67 ∨ (c = 65 ∧ j = 4)) → m c j = m0 c j) → BT X rs m h → Wp (d + 3) 9 (96, [some (.ref 65), some (.int (zI 0)), none, none], [], sA μ m l) Q) : ∀ (f r h : Nat) (m : PM), r + f = rs.length → h ≤ r → (∀ c j, ¬ (c = 67 ∨ (c = 65 ∧ j = 4)) → m c j = m0 c j) → KV X s m rs → m 65 4 = (h : Int) → (∀ x, 0 ≤ x → x < 1024 → -1 ≤ m 67 x ∧ m 67 x < h) → (∀ x w, X x w → (¬ m 67 x = -1 ↔ isHr rs r w)) → (∀ x, 0 ≤ x → x < 1024 → ¬ m 67 x = -1 → ∃ w, X x w) → (∀ x y, 0 ≤ x → x < 1024 → 0 ≤ y → y < 1024 → m 67 x = m 67 y → ¬ m 67 x = -1 → x = y) → (∀ b : Nat, b < h → ∃ x w, X x w ∧ m 67 x = (b : Int)) → Wp (d + 3) 9 (23, [some (.ref 65), some (.int (zI (r : Int))), none, none], [], sA μ m l) Q := by
  intro f
  induction f with
  | zero =>
    intro r h m hf hh fr hv e4 b2 b3 bx b4 b5
    obtain ⟨n1, n2, n3, n4⟩ := KV_n hv
    refine K9_23 H hs hS ⟨by unfold iR; omega, by unfold iR; omega, fun _ m1 e1 => ?_, fun z => absurd (by omega) z⟩
    have er : r = rs.length := by omega
    have hall : ∀ w, isHr rs r w ↔ isHd rs w := fun w => by rw [er]; exact Iff.rfl
    have k : ∀ c j, ¬ (c = 67 ∧ (j = 2 ∨ j = 4)) → m1 c j = m c j := fun c j q => by rw [e1, up_o (by omega), up_o (by omega)]
    have k2 : m1 67 2 = 60 := by rw [e1, up_i (by decide), up_s]
    have k4 : m1 67 4 = 61 := by rw [e1, up_s]
    have hw2 := hv.2.2.1.2 2 (by decide)
    have hw4 := hv.2.2.1.2 4 (by decide)
    have no2 : ¬ isHd rs (wdL.getD 4 []) := fun ⟨q, hq', z⟩ => h3 q hq' (Or.inl z)
    have no4 : ¬ isHd rs (wdL.getD 5 []) := fun ⟨q, hq', z⟩ => h3 q hq' (Or.inr (Or.inl z))
    have m2 : m 67 2 = -1 := Decidable.byContradiction fun z => no2 ((hall _).mp ((b3 2 _ hw2).mp z))
    have m4 : m 67 4 = -1 := Decidable.byContradiction fun z => no4 ((hall _).mp ((b3 4 _ hw4).mp z))
    have x24 : ∀ x w, X x w → isHd rs w → ¬ x = 2 ∧ ¬ x = 4 := by
      intro x w hx hw
      refine ⟨fun z => ?_, fun z => ?_⟩
      · rw [z] at hx
        rw [hv.2.1.2.1 _ _ _ hx hw2] at hw
        exact no2 hw
      · rw [z] at hx
        rw [hv.2.1.2.1 _ _ _ hx hw4] at hw
        exact no4 hw
    refine hq m1 h (fun c j q => by rw [k c j (by omega)]; exact fr c j q) ⟨by rw [k _ _ (by omega)]; exact e4, by omega, fun x x0 x1 => ?_, fun x w hx hw => ?_, ⟨k2, k4⟩, fun x y x0 x1 y0 y1 he hne => ?_, fun x w hx hne => ?_, fun b hb => ?_⟩
    · by_cases c2 : x = 2
      · rw [c2, k2]; omega
      · by_cases c4 : x = 4
        · rw [c4, k4]; omega
        · rw [k _ _ (by omega)]
          have := b2 x x0 x1
          omega
    · have z := x24 x w hx hw
      rw [k _ _ (by omega)]
      have y := (b3 x w hx).mpr ((hall w).mpr hw)
      have := b2 x (hv.2.1.1 _ _ hx).1 (hv.2.2.1.1 _ _ hx)
      omega
    · have v : ∀ z, 0 ≤ z → z < 1024 → m1 67 z = if z = 2 then 60 else if z = 4 then 61 else m 67 z := by
        intro z z0 z1
        by_cases c2 : z = 2
        · rw [if_pos c2, c2, k2]
        · rw [if_neg c2]
          by_cases c4 : z = 4
          · rw [if_pos c4, c4, k4]
          · rw [if_neg c4, k _ _ (by omega)]
      have bx' := b2 x x0 x1
      have by' := b2 y y0 y1
      rw [v x x0 x1] at he hne
      rw [v y y0 y1] at he
      by_cases cx2 : x = 2
      · rw [if_pos cx2] at he
        by_cases cy2 : y = 2
        · omega
        · rw [if_neg cy2] at he
          by_cases cy4 : y = 4
          · rw [if_pos cy4] at he; omega
          · rw [if_neg cy4] at he; omega
      · rw [if_neg cx2] at he hne
        by_cases cx4 : x = 4
        · rw [if_pos cx4] at he
          by_cases cy2 : y = 2
          · rw [if_pos cy2] at he; omega
          · rw [if_neg cy2] at he
            by_cases cy4 : y = 4
            · omega
            · rw [if_neg cy4] at he; omega
        · rw [if_neg cx4] at he hne
          by_cases cy2 : y = 2
          · rw [if_pos cy2] at he; omega
          · rw [if_neg cy2] at he
            by_cases cy4 : y = 4
            · rw [if_pos cy4] at he; omega
            · rw [if_neg cy4] at he
              exact b4 x y x0 x1 y0 y1 he hne
    · by_cases c2 : x = 2
      · exact Or.inr (Or.inl c2)
      · by_cases c4 : x = 4
        · exact Or.inr (Or.inr c4)
        · rw [k _ _ (by omega)] at hne
          exact Or.inl ((hall w).mp ((b3 x w hx).mp hne))
    · obtain ⟨x, w, hx, he⟩ := b5 b hb
      have hw := (hall w).mp ((b3 x w hx).mp (by omega))
      have z := x24 x w hx hw
      exact ⟨x, w, hx, hw, by rw [k _ _ (by omega)]; exact he⟩
  | succ f ih =>
    intro r h m hf hh fr hv e4 b2 b3 bx b4 b5
    obtain ⟨n1, n2, n3, n4⟩ := KV_n hv
    have hr : r < rs.length := by omega
    obtain ⟨a1, a2, a3, a4, a5⟩ := KV_head hv hr
    have hb := b2 _ a4.1 a4.2
    have e : (r : Int) + 1 = ((r + 1 : Nat) : Int) := by omega
    have hup : ∀ w, isHr rs (r + 1) w ↔ (isHr rs r w ∨ (rs.getD r ruD).1.1 = w) := fun w => ⟨fun ⟨q, q1, q2⟩ => by
      by_cases c : q = r
      · rw [c] at q2; exact Or.inr q2
      · exact Or.inl ⟨q, by omega, q2⟩, fun z => by
      rcases z with ⟨q, q1, q2⟩ | z
      · exact ⟨q, by omega, q2⟩
      · exact ⟨r, by omega, z⟩⟩
    refine K9_23 H hs hS ⟨by unfold iR; omega, by unfold iR; omega, fun z => absurd z (by omega), fun _ => ⟨by omega, by omega, fun v2 e2 => ?_⟩⟩
    rw [e2]
    refine ⟨a4, by unfold iR; omega, fun z => ?_, fun z v3 e3 => ?_⟩
    · rw [e]
      refine ih (r + 1) h m (by omega) (by omega) fr hv e4 b2 (fun x w hx => ?_) bx b4 b5
      rw [b3 x w hx, hup w]
      constructor
      · intro y; exact Or.inl y
      · rintro (y | y)
        · exact y
        · rw [← y]; exact (b3 _ _ a3).mp z
    · rw [e3]
      refine ⟨a4, fun m4 em4 => ?_⟩
      have z' : m 67 (m (s + 6) (m (s + 11) (r : Int))) = -1 := Decidable.byContradiction z
      rw [e4] at em4
      have k : ∀ c j, ¬ ((c = 67 ∧ j = m (s + 6) (m (s + 11) (r : Int))) ∨ (c = 65 ∧ j = 4)) → m4 c j = m c j := fun c j q => by rw [em4, up_o (by omega), up_o (by omega)]
      have kx : m4 67 (m (s + 6) (m (s + 11) (r : Int))) = (h : Int) := by rw [em4, up_o (by omega), up_s]
      generalize m (s + 6) (m (s + 11) (r : Int)) = xr at k kx z' a3 a4
      rw [e]
      refine ih (r + 1) (h + 1) m4 (by omega) (by omega) (fun c j q => by rw [k c j (by omega)]; exact fr c j q) (KV_cg (fun c j q => k c j (by omega)) hv) (by rw [em4, up_s]; omega) (fun x x0 x1 => ?_) (fun x w hx => ?_) (fun x x0 x1 hne => ?_) (fun x y x0 x1 y0 y1 he hne => ?_) (fun b hb' => ?_)
      · by_cases c : x = xr
        · rw [c, kx]; omega
        · rw [k _ _ (by omega)]
          have := b2 x x0 x1
          omega
      · rw [hup w]
        by_cases c : x = xr
        · rw [c] at hx ⊢
          rw [kx]
          have ew := hv.2.1.2.1 _ _ _ a3 hx
          exact ⟨fun _ => Or.inr ew, fun _ => by omega⟩
        · rw [k _ _ (by omega), b3 x w hx]
          constructor
          · intro y; exact Or.inl y
          · rintro (y | y)
            · exact y
            · rw [← y] at hx
              exact absurd (hv.2.1.2.2.1 _ _ _ hx a3) c
      · by_cases c : x = xr
        · rw [c]; exact ⟨_, a3⟩
        · rw [k _ _ (by omega)] at hne
          exact bx x x0 x1 hne
      · have bx' := b2 x x0 x1
        have by' := b2 y y0 y1
        by_cases cx : x = xr
        · by_cases cy : y = xr
          · omega
          · rw [cx, kx, k _ _ (by omega)] at he
            omega
        · by_cases cy : y = xr
          · rw [cy, kx, k _ _ (by omega)] at he
            omega
          · rw [k _ _ (by omega), k _ _ (by omega)] at he
            rw [k _ _ (by omega)] at hne
            exact b4 x y x0 x1 y0 y1 he hne
      · by_cases c : b = h
        · rw [c]; exact ⟨xr, _, a3, kx⟩
        · obtain ⟨x, w, hx, he⟩ := b5 b (by omega)
          have hne : ¬ x = xr := fun c => by rw [c] at he; omega
          refine ⟨x, w, hx, ?_⟩
          rw [k _ _ (by omega)]
          exact he
/-- the bits that the conditions of a list of a rule bring -/
def EL (X : Int → List Int → Prop) (m : PM) (L : List (Nat × Atm)) (j i : Nat) : Prop := ∃ q, q < j ∧ (L.getD q cnD).1 < 3 ∧ BN X m i (L.getD q cnD).2.1
/-- the bits of the needs behind the rules before r, and more of rule r -/
def EB (X : Int → List Int → Prop) (rs : List Rul) (m : PM) (r b i : Nat) : Prop := ∃ q, q < r ∧ BN X m b (rs.getD q ruD).1.1 ∧ ∃ c, c ∈ (rs.getD q ruD).2 ∧ c.1 < 3 ∧ BN X m i c.2.1
theorem rl_row {m l l1 : PM} {A : Nat → Nat → Prop} {b0 : Nat} {t : Int} {B : Nat → Prop} (hA : ∀ b i : Nat, b < 62 → i < 64 → (bL (l 68 (b : Int)) i = true ↔ A b i)) (ht : ∀ i, i < 64 → (bL t i = true ↔ B i)) (e : l1 = up l 68 (b0 : Int) (zLOr (l 68 (b0 : Int)) t)) : ∀ b i : Nat, b < 62 → i < 64 → (bL (l1 68 (b : Int)) i = true ↔ (A b i ∨ (b = b0 ∧ B i))) := by
  intro b i hb hi
  by_cases c : b = b0
  · rw [c, e, up_s, bL_or, Bool.or_eq_true, ← c, hA b i hb hi, ht i hi]
    exact or_congr Iff.rfl ⟨fun z => ⟨rfl, z⟩, fun z => z.2⟩
  · rw [e, up_i (by omega), hA b i hb hi]
    exact ⟨fun z => Or.inl z, fun z => by
      rcases z with z | z
      · exact z
      · exact absurd z.1 c⟩
/-- maskOf at a condition -/
theorem mask_cond {m l : PM} {r h : Nat} {k : Int} {c : Nat × Atm} (H : CS μ) (hv : KV X s m rs) (hB : BT X rs m h) (hr : r < rs.length) (hc : c ∈ (rs.getD r ruD).2) (hA : AtC X s m (m s 6) k c) : Wp d 10 (0, [some (.ref 65), some (.int (zI (m (s + 6) k)))], [], sA μ m l) (pL (fun y μ' => ∃ t : Int, y = zL t ∧ μ' = sA μ m l ∧ ∀ i : Nat, i < 64 → (bL t i = true ↔ (c.1 < 3 ∧ BN X m i c.2.1))) noX) := by
  obtain ⟨q1, q2, q3, q4, q5, q6⟩ := KV_cond hv hr hc hA
  refine (k_maskOf (l := l) H q3 (hB.2.2.1 _ q3.1 q3.2)).mono (fun o μ' ho => ?_)
  cases o with
  | inr x => exact ho
  | inl v =>
    obtain ⟨y, rfl, t, ey, em, ht⟩ := pL_r ho
    refine ⟨t, ey, em, fun i hi => (ht i hi).trans ?_⟩
    by_cases c3 : c.1 = 3
    · have e9 := q4 c3
      have n9 : m 67 9 = -1 := Decidable.byContradiction fun z => by
        have hx9 := hv.2.2.1.2 9 (by decide)
        rcases hB.2.2.2.2.2.2.1 9 _ hx9 z with ⟨q, hq, w⟩ | w | w
        · have hru : rs.getD q ruD ∈ rs := (mem_gD rs ruD _).mpr ⟨q, hq, rfl⟩
          exact (hv.2.2.2.2 _ hru).1 w
        · omega
        · omega
      rw [e9, n9]
      exact ⟨fun z => by omega, fun z => by omega⟩
    · have hlt : c.1 < 3 := by
        rcases q1.2 with y | y | y
        · omega
        · omega
        · exact absurd y.1 c3
      have hx := (q5 hlt).1
      constructor
      · intro z; exact ⟨hlt, _, hx, z⟩
      · rintro ⟨_, x, hx', z⟩
        rw [hv.2.1.2.2.1 _ _ _ hx hx']
        exact z
theorem rl_160 {m : PM} {r h b0 : Nat} {A : Nat → Nat → Prop} {Q : Option Value ⊕ Nat → am_Mem → Prop} (H : CS μ) (hs : s = 22 ∨ s = 42) (hS : am_F μ 65 1 = s) (hv : KV X s m rs) (hB : BT X rs m h) (hr : r < rs.length) (hb0 : b0 < 62) {l0 : PM} (hq : ∀ l : PM, (∀ c j, ¬ c = 68 → l c j = l0 c j) → (∀ b i : Nat, b < 62 → i < 64 → (bL (l 68 (b : Int)) i = true ↔ (A b i ∨ (b = b0 ∧ EL X m (otC (rs.getD r ruD).2) (otC (rs.getD r ruD).2).length i)))) → ∀ o2 o3 : Option Value, Wp (d + 3) 9 (96, [some (.ref 65), some (.int (zI ((r : Int) + 1))), o2, o3], [], sA μ m l) Q) : ∀ (f j : Nat) (l : PM), j + f = (otC (rs.getD r ruD).2).length → (∀ c j, ¬ c = 68 → l c j = l0 c j) → (∀ b i : Nat, b < 62 → i < 64 → (bL (l 68 (b : Int)) i = true ↔ (A b i ∨ (b = b0 ∧ EL X m (otC (rs.getD r ruD).2) j i)))) → Wp (d + 3) 9 (160, [some (.ref 65), some (.int (zI (r : Int))), some (.int (zI (b0 : Int))), some (.int (zI (j : Int)))], [], sA μ m l) Q := by
  obtain ⟨k1, k2, k3, k4, k5, k6⟩ := KV_rule hv hr
  have e16 := k1.2.2.1.1
  intro f
  induction f with
  | zero =>
    intro j l hf fr hl
    have ej : j = (otC (rs.getD r ruD).2).length := by omega
    rw [ej] at hl
    exact K9_160 H hs hS ⟨by omega, by unfold iR; omega, by unfold iR; omega, fun _ => hq l fr hl _ _, fun z => absurd (by omega) z⟩
  | succ f ih =>
    intro j l hf fr hl
    obtain ⟨p1, p2, p3⟩ := KV_oth hv hr (show j < _ by omega)
    obtain ⟨q1, q2, q3, q4, q5, q6⟩ := KV_cond hv hr p1 p3
    refine K9_160 H hs hS ⟨by omega, by unfold iR; omega, by unfold iR; omega, fun z => absurd z (by omega), fun _ => ⟨by omega, by omega, by omega, fun v1 e1 => ?_⟩⟩
    rw [e1]
    refine ⟨_, noX, mask_cond H hv hB hr p1 p3, fun y μ' hy => ?_, fun _ _ z => z.elim⟩
    obtain ⟨t, rfl, rfl, ht⟩ := hy
    refine K9_190 H hs hS ⟨by omega, fun l1 el => ?_⟩
    rw [show (j : Int) + 1 = ((j + 1 : Nat) : Int) by omega]
    refine ih (j + 1) l1 (by omega) (fun c i q => by rw [el, up_c q]; exact fr c i q) (fun b i hb hi => ?_)
    rw [rl_row (m := m) hl ht el b i hb hi]
    constructor
    · rintro ((z | ⟨z, q, w1, w2⟩) | ⟨z, w⟩)
      · exact Or.inl z
      · exact Or.inr ⟨z, q, by omega, w2⟩
      · exact Or.inr ⟨z, j, by omega, w⟩
    · rintro (z | ⟨z, q, w1, w2⟩)
      · exact Or.inl (Or.inl z)
      · by_cases c : q = j
        · rw [c] at w2; exact Or.inr ⟨z, w2⟩
        · exact Or.inl (Or.inr ⟨z, q, by omega, w2⟩)
theorem rl_120 {m : PM} {r h b0 : Nat} {A : Nat → Nat → Prop} {Q : Option Value ⊕ Nat → am_Mem → Prop} (H : CS μ) (hs : s = 22 ∨ s = 42) (hS : am_F μ 65 1 = s) (hv : KV X s m rs) (hB : BT X rs m h) (hr : r < rs.length) (hb0 : b0 < 62) {l0 : PM} (hq : ∀ l : PM, (∀ c j, ¬ c = 68 → l c j = l0 c j) → (∀ b i : Nat, b < 62 → i < 64 → (bL (l 68 (b : Int)) i = true ↔ (A b i ∨ (b = b0 ∧ EL X m (psC (rs.getD r ruD).2) (psC (rs.getD r ruD).2).length i)))) → Wp (d + 3) 9 (160, [some (.ref 65), some (.int (zI (r : Int))), some (.int (zI (b0 : Int))), some (.int (zI 0))], [], sA μ m l) Q) : ∀ (f j : Nat) (l : PM), j + f = (psC (rs.getD r ruD).2).length → (∀ c j, ¬ c = 68 → l c j = l0 c j) → (∀ b i : Nat, b < 62 → i < 64 → (bL (l 68 (b : Int)) i = true ↔ (A b i ∨ (b = b0 ∧ EL X m (psC (rs.getD r ruD).2) j i)))) → Wp (d + 3) 9 (120, [some (.ref 65), some (.int (zI (r : Int))), some (.int (zI (b0 : Int))), some (.int (zI (j : Int)))], [], sA μ m l) Q := by
  obtain ⟨k1, k2, k3, k4, k5, k6⟩ := KV_rule hv hr
  have e13 := k1.2.1.1
  intro f
  induction f with
  | zero =>
    intro j l hf fr hl
    have ej : j = (psC (rs.getD r ruD).2).length := by omega
    rw [ej] at hl
    exact K9_120 H hs hS ⟨by omega, by unfold iR; omega, by unfold iR; omega, fun _ => hq l fr hl, fun z => absurd (by omega) z⟩
  | succ f ih =>
    intro j l hf fr hl
    obtain ⟨p1, p2, p3⟩ := KV_pos hv hr (show j < _ by omega)
    obtain ⟨q1, q2, q3, q4, q5, q6⟩ := KV_cond hv hr p1 p3
    refine K9_120 H hs hS ⟨by omega, by unfold iR; omega, by unfold iR; omega, fun z => absurd z (by omega), fun _ => ⟨by omega, by omega, by omega, fun v1 e1 => ?_⟩⟩
    rw [e1]
    refine ⟨_, noX, mask_cond H hv hB hr p1 p3, fun y μ' hy => ?_, fun _ _ z => z.elim⟩
    obtain ⟨t, rfl, rfl, ht⟩ := hy
    refine K9_150 H hs hS ⟨by omega, fun l1 el => ?_⟩
    rw [show (j : Int) + 1 = ((j + 1 : Nat) : Int) by omega]
    refine ih (j + 1) l1 (by omega) (fun c i q => by rw [el, up_c q]; exact fr c i q) (fun b i hb hi => ?_)
    rw [rl_row (m := m) hl ht el b i hb hi]
    constructor
    · rintro ((z | ⟨z, q, w1, w2⟩) | ⟨z, w⟩)
      · exact Or.inl z
      · exact Or.inr ⟨z, q, by omega, w2⟩
      · exact Or.inr ⟨z, j, by omega, w⟩
    · rintro (z | ⟨z, q, w1, w2⟩)
      · exact Or.inl (Or.inl z)
      · by_cases c : q = j
        · rw [c] at w2; exact Or.inr ⟨z, w2⟩
        · exact Or.inl (Or.inr ⟨z, q, by omega, w2⟩)
theorem EL_ps {m : PM} {cs : List (Nat × Atm)} {i : Nat} : EL X m (psC cs) (psC cs).length i ↔ ∃ c, c ∈ cs ∧ c.1 = 1 ∧ c.1 < 3 ∧ BN X m i c.2.1 := ex_ps (P := fun c => c.1 < 3 ∧ BN X m i c.2.1)
theorem EL_ot {m : PM} {cs : List (Nat × Atm)} {i : Nat} : EL X m (otC cs) (otC cs).length i ↔ ∃ c, c ∈ cs ∧ ¬ c.1 = 1 ∧ c.1 < 3 ∧ BN X m i c.2.1 := ex_ot (P := fun c => c.1 < 3 ∧ BN X m i c.2.1)
theorem BN_in {m : PM} {h b : Nat} {w : List Int} {x : Int} (hv : KV X s m rs) (hB : BT X rs m h) (hx : X x w) (hb : BN X m b w) : m 67 x = (b : Int) := by
  obtain ⟨y, hy, e⟩ := hb
  rw [hv.2.1.2.2.1 _ _ _ hx hy]
  exact e
theorem rl_96 {m : PM} {h : Nat} {Q : Option Value ⊕ Nat → am_Mem → Prop} (H : CS μ) (hs : s = 22 ∨ s = 42) (hS : am_F μ 65 1 = s) (hv : KV X s m rs) (hB : BT X rs m h) {l0 : PM} (hq : ∀ l : PM, (∀ c j, ¬ c = 68 → l c j = l0 c j) → (∀ b i : Nat, b < 62 → i < 64 → (bL (l 68 (b : Int)) i = true ↔ EB X rs m rs.length b i)) → ∀ o2 o3 : Option Value, Wp (d + 3) 9 (206, [some (.ref 65), some (.int (zI 0)), o2, o3], [], sA μ m l) Q) : ∀ (f r : Nat) (l : PM) (o2 o3 : Option Value), r + f = rs.length → (∀ c j, ¬ c = 68 → l c j = l0 c j) → (∀ b i : Nat, b < 62 → i < 64 → (bL (l 68 (b : Int)) i = true ↔ EB X rs m r b i)) → Wp (d + 3) 9 (96, [some (.ref 65), some (.int (zI (r : Int))), o2, o3], [], sA μ m l) Q := by
  obtain ⟨n1, n2, n3, n4⟩ := KV_n hv
  intro f
  induction f with
  | zero =>
    intro r l o2 o3 hf fr hl
    have er : r = rs.length := by omega
    rw [er] at hl
    exact K9_96 H hs hS ⟨by unfold iR; omega, by unfold iR; omega, fun _ => hq l fr hl _ _, fun z => absurd (by omega) z⟩
  | succ f ih =>
    intro r l o2 o3 hf fr hl
    have hr : r < rs.length := by omega
    obtain ⟨a1, a2, a3, a4, a5⟩ := KV_head hv hr
    have hhd := hB.2.2.2.1 _ _ a3 ⟨r, hr, rfl⟩
    have h60 := hB.2.1
    refine K9_96 H hs hS ⟨by unfold iR; omega, by unfold iR; omega, fun z => absurd z (by omega), fun _ => ⟨by omega, by omega, fun v1 e1 => ?_⟩⟩
    rw [e1]
    refine ⟨a4, ?_⟩
    obtain ⟨b0, eb⟩ : ∃ b0 : Nat, m 67 (m (s + 6) (m (s + 11) (r : Int))) = (b0 : Int) := ⟨(m 67 (m (s + 6) (m (s + 11) (r : Int)))).toNat, by omega⟩
    rw [eb]
    have hbn : ∀ b, b < 62 → (BN X m b (rs.getD r ruD).1.1 ↔ b = b0) := by
      intro b hb
      constructor
      · intro z
        have := BN_in hv hB a3 z
        omega
      · intro z
        exact ⟨_, a3, by rw [eb, z]⟩
    refine rl_120 (l0 := l0) (A := EB X rs m r) H hs hS hv hB hr (by omega) (fun l1 fr1 hl1 => ?_) (psC (rs.getD r ruD).2).length 0 l (Nat.zero_add _) fr (fun b i hb hi => (hl b i hb hi).trans ⟨fun z => Or.inl z, fun z => ?_⟩)
    · refine rl_160 (l0 := l0) (A := fun b i => EB X rs m r b i ∨ (b = b0 ∧ EL X m (psC (rs.getD r ruD).2) (psC (rs.getD r ruD).2).length i)) H hs hS hv hB hr (by omega) (fun l2 fr2 hl2 o2 o3 => ?_) (otC (rs.getD r ruD).2).length 0 l1 (Nat.zero_add _) fr1 (fun b i hb hi => (hl1 b i hb hi).trans ⟨fun z => Or.inl z, fun z => ?_⟩)
      · rw [show (r : Int) + 1 = ((r + 1 : Nat) : Int) by omega]
        refine ih (r + 1) l2 _ _ (by omega) fr2 (fun b i hb hi => (hl2 b i hb hi).trans ?_)
        rw [EL_ps, EL_ot]
        constructor
        · rintro ((⟨q, q1, q2⟩ | ⟨z, c, hc, _, w⟩) | ⟨z, c, hc, _, w⟩)
          · exact ⟨q, by omega, q2⟩
          · exact ⟨r, by omega, (hbn b hb).mpr z, c, hc, w⟩
          · exact ⟨r, by omega, (hbn b hb).mpr z, c, hc, w⟩
        · rintro ⟨q, q1, q2, c, hc, w⟩
          by_cases cq : q = r
          · rw [cq] at q2 hc
            by_cases c1 : c.1 = 1
            · exact Or.inl (Or.inr ⟨(hbn b hb).mp q2, c, hc, c1, w⟩)
            · exact Or.inr ⟨(hbn b hb).mp q2, c, hc, c1, w⟩
          · exact Or.inl (Or.inl ⟨q, by omega, q2, c, hc, w⟩)
      · rcases z with z | ⟨_, q, q1, _⟩
        · exact z
        · exact absurd q1 (Nat.not_lt_zero q)
    · rcases z with z | ⟨_, q, q1, _⟩
      · exact z
      · exact absurd q1 (Nat.not_lt_zero q)
end CRL
