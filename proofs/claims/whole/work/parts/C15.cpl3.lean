/-! ===== the class's plan ===== -/
theorem fL_sub {P Q : Nat → Prop} (hpq : ∀ r, P r → Q r) : ∀ n : Nat, (fL P n).length ≤ (fL Q n).length := by
  intro n
  induction n with
  | zero => exact Nat.le_refl _
  | succ n ih =>
    by_cases p : P n
    · rw [fL_p p, fL_p (hpq n p)]
      simp
      exact ih
    · rw [fL_n p]
      by_cases q : Q n
      · rw [fL_p q]; simp; omega
      · rw [fL_n q]; exact ih
theorem fL_ex {P Q : Nat → Prop} (hpq : ∀ r, P r ↔ Q r) (n : Nat) : fL P n = fL Q n := by
  have e : P = Q := funext fun r => propext (hpq r)
  rw [e]
/-- the memory holds these groups; m0: as the plan began -/
def PMm (s : Nat) (rs : List Rul) (m0 l : PM) (h : Nat) (B : List Nat) (m : PM) : Prop := m s 17 = (B.length : Int) ∧ (∀ g : Nat, g ≤ B.length → m (s + 18) (g : Int) = ((fL (PB s m0 l (B.take g)) rs.length).length : Int)) ∧ (∀ g : Nat, g < B.length → m (s + 19) (g : Int) = m (s + 18) (g : Int) + ((fL (Gp s rs m0 l (B.getD g 0) 0) rs.length).length : Int) ∧ m (s + 18) ((g : Int) + 1) = m (s + 19) (g : Int) + ((fL (Gp s rs m0 l (B.getD g 0) 1) rs.length).length : Int)) ∧ (∀ g : Nat, g < B.length → (∀ i : Nat, i < (fL (Gp s rs m0 l (B.getD g 0) 0) rs.length).length → m (s + 17) (m (s + 18) (g : Int) + (i : Int)) = ((fL (Gp s rs m0 l (B.getD g 0) 0) rs.length).getD i 0 : Int)) ∧ ∀ i : Nat, i < (fL (Gp s rs m0 l (B.getD g 0) 1) rs.length).length → m (s + 17) (m (s + 19) (g : Int) + (i : Int)) = ((fL (Gp s rs m0 l (B.getD g 0) 1) rs.length).getD i 0 : Int)) ∧ (∀ c : Nat, c < h → m 69 (c : Int) = bP (∃ b, b ∈ B ∧ sm l b c)) ∧ ∀ r, r < rs.length → PB s m0 l B r → LT s rs m r 0
/-- what the plan may write -/
abbrev WPn (s c : Nat) (j : Int) : Prop := c = 69 ∨ c = s + 14 ∨ c = s + 17 ∨ c = s + 18 ∨ c = s + 19 ∨ (c = s ∧ (j = 17 ∨ j = 18))
section CP15
variable {d : Nat} {μ : am_Mem} {s : Nat} {X : Int → List Int → Prop} {rs : List Rul} {l : PM} {h : Nat}
theorem hbt_on {m : PM} (hv : KV X s m rs) (hR : RLt X rs m l h) {c : Nat} (hc : c < h) : ∃ r, r < rs.length ∧ hbt s m r = c := by
  obtain ⟨x, w, hx, ⟨q, hq, e⟩, ec⟩ := hR.1.2.2.2.2.2.2.2 c hc
  refine ⟨q, hq, ?_⟩
  obtain ⟨a1, a2, a3, a4, a5⟩ := KV_head hv hq
  rw [e] at a3
  have ex := hv.2.1.2.2.1 _ _ _ a3 hx
  unfold hbt
  rw [ex, ec]
  omega
theorem PB_app {m : PM} {B : List Nat} {b r : Nat} : PB s m l (B ++ [b]) r ↔ (PB s m l B r ∨ sm l b (hbt s m r)) := by
  unfold PB
  constructor
  · rintro ⟨x, hx, z⟩
    rcases List.mem_append.mp hx with hx | hx
    · exact Or.inl ⟨x, hx, z⟩
    · rw [List.mem_singleton.mp hx] at z; exact Or.inr z
  · rintro (⟨x, hx, z⟩ | z)
    · exact ⟨x, List.mem_append_left _ hx, z⟩
    · exact ⟨b, List.mem_append_right _ (List.mem_singleton.mpr rfl), z⟩
theorem k_placeGroup {m0 m : PM} {B : List Nat} {b : Nat} (H : CS μ) (hs : s = 22 ∨ s = 42) (hS : am_F μ 65 1 = s) (hv0 : KV X s m0 rs) (hR0 : RLt X rs m0 l h) (hb : b < h) (hB : ∀ x, x ∈ B → x < h) (hBl : B.length < 60) (hno : ¬ ∃ x, x ∈ B ∧ sm l x b) (fr : ∀ c j, ¬ WPn s c j → m c j = m0 c j) (hM : PMm s rs m0 l h B m) : Wp (d + 4) 22 (0, [some (.ref 65), some (.int (zI (b : Int))), none, none], [], sA μ m l) (pV (fun μ' => ∃ m', μ' = sA μ m' l ∧ (∀ c j, ¬ WPn s c j → m' c j = m0 c j) ∧ m' s 18 = m s 18 ∧ PMm s rs m0 l h (B ++ [b]) m') noX) := by
  obtain ⟨g1, g2, g3, g4, g5, g6⟩ := hM
  have h60 := hR0.1.2.1
  have hv : KV X s m rs := KV_cg (fun c j q => fr c j (by omega)) hv0
  have hR : RLt X rs m l h := RLt_cg (fun c j q => fr c j (by omega)) hR0
  have ehb : ∀ r, hbt s m r = hbt s m0 r := fun r => by
    unfold hbt
    rw [fr 67 _ (by omega), fr (s + 6) _ (by omega), fr (s + 11) _ (by omega)]
  have eG : ∀ x v r, Gp s rs m l x v r ↔ Gp s rs m0 l x v r := fun x v r => by unfold Gp; rw [ehb]
  have eF : ∀ x v, fL (Gp s rs m l x v) rs.length = fL (Gp s rs m0 l x v) rs.length := fun x v => fL_ex (eG x v) _
  have gl := g2 B.length (Nat.le_refl _)
  rw [List.take_length] at gl
  have dj0 : ∀ r, r < rs.length → PB s m0 l B r → ¬ sm l b (hbt s m0 r) := by
    rintro r hr ⟨x, hx, z⟩ y
    have := (hbt_v hv0 hR0 hr).2
    exact hno ⟨x, hx, sm_tr hv0 hR0 (hB x hx) this hb z (sm_sy y)⟩
  -- counts
  have c1 : (fL (fun r => r < rs.length ∧ PB s m0 l B r) rs.length).length = (fL (PB s m0 l B) rs.length).length := by
    have a := fL_sub (P := fun r => r < rs.length ∧ PB s m0 l B r) (Q := PB s m0 l B) (fun r z => z.2) rs.length
    have key : ∀ n, n ≤ rs.length → fL (fun r => r < rs.length ∧ PB s m0 l B r) n = fL (PB s m0 l B) n := by
      intro n
      induction n with
      | zero => intro _; rfl
      | succ n ih =>
        intro hn
        by_cases p : PB s m0 l B n
        · rw [fL_p (P := fun r => r < rs.length ∧ PB s m0 l B r) ⟨by omega, p⟩, fL_p p, ih (by omega)]
        · rw [fL_n (P := fun r => r < rs.length ∧ PB s m0 l B r) (fun z => p z.2), fL_n p, ih (by omega)]
    rw [key rs.length (Nat.le_refl _)]
  have s1 := fL_dj (P := fun r => r < rs.length ∧ PB s m0 l B r) (Q := Gp s rs m0 l b 0) (R := fun r => (r < rs.length ∧ PB s m0 l B r) ∨ Gp s rs m0 l b 0 r) (fun r => Iff.rfl) (fun r z y => dj0 r z.1 z.2 y.1) rs.length
  have s2 := fL_dj (P := fun r => (r < rs.length ∧ PB s m0 l B r) ∨ Gp s rs m0 l b 0 r) (Q := Gp s rs m0 l b 1) (R := fun r => (((r < rs.length ∧ PB s m0 l B r) ∨ Gp s rs m0 l b 0 r) ∨ Gp s rs m0 l b 1 r)) (fun r => Iff.rfl) (fun r z y => by
    rcases z with z | z
    · exact dj0 r z.1 z.2 y.1
    · have y2 := y.2
      rw [z.2] at y2
      exact absurd y2 (by decide)) rs.length
  have c2 := fL_le (fun r => (((r < rs.length ∧ PB s m0 l B r) ∨ Gp s rs m0 l b 0 r) ∨ Gp s rs m0 l b 1 r)) rs.length
  have s3 : (fL (fun r => (((r < rs.length ∧ PB s m0 l B r) ∨ Gp s rs m0 l b 0 r) ∨ Gp s rs m0 l b 1 r)) rs.length).length = (fL (PB s m0 l (B ++ [b])) rs.length).length := by
    have key : ∀ n, n ≤ rs.length → fL (fun r => (((r < rs.length ∧ PB s m0 l B r) ∨ Gp s rs m0 l b 0 r) ∨ Gp s rs m0 l b 1 r)) n = fL (PB s m0 l (B ++ [b])) n := by
      intro n
      induction n with
      | zero => intro _; rfl
      | succ n ih =>
        intro hn
        have iff : (((n < rs.length ∧ PB s m0 l B n) ∨ Gp s rs m0 l b 0 n) ∨ Gp s rs m0 l b 1 n) ↔ PB s m0 l (B ++ [b]) n := by
          rw [PB_app]
          constructor
          · rintro ((z | z) | z)
            · exact Or.inl z.2
            · exact Or.inr z.1
            · exact Or.inr z.1
          · rintro (z | z)
            · exact Or.inl (Or.inl ⟨by omega, z⟩)
            · rcases bP_b (Rec rs n) with y | y
              · exact Or.inl (Or.inr ⟨z, y⟩)
              · exact Or.inr ⟨z, y⟩
        by_cases p : PB s m0 l (B ++ [b]) n
        · rw [fL_p (P := fun r => (((r < rs.length ∧ PB s m0 l B r) ∨ Gp s rs m0 l b 0 r) ∨ Gp s rs m0 l b 1 r)) (iff.mpr p), fL_p p, ih (by omega)]
        · rw [fL_n (P := fun r => (((r < rs.length ∧ PB s m0 l B r) ∨ Gp s rs m0 l b 0 r) ∨ Gp s rs m0 l b 1 r)) (fun z => p (iff.mp z)), fL_n p, ih (by omega)]
    rw [key rs.length (Nat.le_refl _)]
  rw [c1] at s1
  generalize hN : (fL (PB s m0 l B) rs.length).length = N at *
  generalize hP0 : (fL (Gp s rs m0 l b 0) rs.length).length = n0 at *
  generalize hP1 : (fL (Gp s rs m0 l b 1) rs.length).length = n1 at *
  have capN : N + n0 + n1 ≤ rs.length := by omega
  have newN : (fL (PB s m0 l (B ++ [b])) rs.length).length = N + n0 + n1 := by omega
  refine K22_0 H hs hS ⟨by omega, ?_⟩
  rw [g1, gl]
  refine ⟨fun y μ' => ∃ m1, y = zI ((N : Int) + (n0 : Int)) ∧ μ' = sA μ m1 l ∧ (∀ c j, ¬ WPl s (N : Int) c j → m1 c j = m c j) ∧ (∀ i : Nat, i < n0 → m1 (s + 17) ((N : Int) + (i : Int)) = ((fL (Gp s rs m0 l b 0) rs.length).getD i 0 : Int)) ∧ (∀ c, c < h → m1 69 (c : Int) = cif (∃ r, r < rs.length ∧ Gp s rs m0 l b 0 r ∧ hbt s m0 r = c) 1 (m 69 (c : Int))) ∧ (∀ r, r < rs.length → (Gp s rs m0 l b 0 r ∨ LT s rs m r 0) → LT s rs m1 r 0), noX, ?_, fun y μ' hy => ?_, fun _ _ z => z.elim⟩
  · refine K23_0 H hs hS ?_
    have z := pr_6 (d := d) (l := l) (μ := μ) (m0 := m) (b := b) (v := 0) (w := (N : Int)) (Q := pI (fun y μ' => ∃ m1, y = zI ((N : Int) + (n0 : Int)) ∧ μ' = sA μ m1 l ∧ (∀ c j, ¬ WPl s (N : Int) c j → m1 c j = m c j) ∧ (∀ i : Nat, i < n0 → m1 (s + 17) ((N : Int) + (i : Int)) = ((fL (Gp s rs m0 l b 0) rs.length).getD i 0 : Int)) ∧ (∀ c, c < h → m1 69 (c : Int) = cif (∃ r, r < rs.length ∧ Gp s rs m0 l b 0 r ∧ hbt s m0 r = c) 1 (m 69 (c : Int))) ∧ (∀ r, r < rs.length → (Gp s rs m0 l b 0 r ∨ LT s rs m r 0) → LT s rs m1 r 0)) noX) H hs hS hb (Or.inl rfl) (by omega) (by rw [eF, hP0]; omega) hv hR (fun m1 q1 q2 q3 q4 => ?_) rs.length 0 m none (Nat.zero_add _) (fun _ _ _ => rfl) (fun i hi => absurd hi (Nat.not_lt_zero i)) (fun c hc => (cif_n (fun ⟨q, hq, _⟩ => absurd hq (Nat.not_lt_zero q))).symm) (fun q hq z => by
      rcases z with z | z
      · exact absurd z.1 (Nat.not_lt_zero q)
      · exact z)
    · have e0 : (N : Int) + ((fL (Gp s rs m l b 0) 0).length : Int) = (N : Int) := by
        show (N : Int) + ((0 : Nat) : Int) = N
        omega
      rw [e0] at z
      exact z
    · rw [eF] at q2 ⊢
      rw [hP0] at q2 ⊢
      refine ⟨m1, rfl, rfl, q1, q2, fun c hc => ?_, fun r hr z => q4 r hr ?_⟩
      · have eq : (∃ r, r < rs.length ∧ Gp s rs m l b 0 r ∧ hbt s m r = c) ↔ (∃ r, r < rs.length ∧ Gp s rs m0 l b 0 r ∧ hbt s m0 r = c) := ⟨fun ⟨r, z1, z2, z3⟩ => ⟨r, z1, (eG _ _ _).mp z2, by rw [← ehb]; exact z3⟩, fun ⟨r, z1, z2, z3⟩ => ⟨r, z1, (eG _ _ _).mpr z2, by rw [ehb]; exact z3⟩⟩
        rw [← propext eq]
        exact q3 c hc
      · rcases z with z | z
        · exact Or.inl ((eG _ _ _).mpr z)
        · exact Or.inr z
  obtain ⟨m1, rfl, rfl, q1, q2, q3, q4⟩ := hy
  have fr1 : ∀ c j, ¬ WPn s c j → m1 c j = m0 c j := fun c j q => by rw [q1 c j (by omega)]; exact fr c j q
  have hv1 : KV X s m1 rs := KV_cg (fun c j q => fr1 c j (by omega)) hv0
  have hR1 : RLt X rs m1 l h := RLt_cg (fun c j q => fr1 c j (by omega)) hR0
  have ehb1 : ∀ r, hbt s m1 r = hbt s m0 r := fun r => by
    unfold hbt
    rw [fr1 67 _ (by omega), fr1 (s + 6) _ (by omega), fr1 (s + 11) _ (by omega)]
  have eG1 : ∀ x v r, Gp s rs m1 l x v r ↔ Gp s rs m0 l x v r := fun x v r => by unfold Gp; rw [ehb1]
  have eF1 : ∀ x v, fL (Gp s rs m1 l x v) rs.length = fL (Gp s rs m0 l x v) rs.length := fun x v => fL_ex (eG1 x v) _
  refine K22_21 H hs hS ?_
  refine ⟨fun y μ' => ∃ m2, y = zI ((N : Int) + (n0 : Int) + (n1 : Int)) ∧ μ' = sA μ m2 l ∧ (∀ c j, ¬ WPl s ((N : Int) + (n0 : Int)) c j → m2 c j = m1 c j) ∧ (∀ i : Nat, i < n1 → m2 (s + 17) ((N : Int) + (n0 : Int) + (i : Int)) = ((fL (Gp s rs m0 l b 1) rs.length).getD i 0 : Int)) ∧ (∀ c, c < h → m2 69 (c : Int) = cif (∃ r, r < rs.length ∧ Gp s rs m0 l b 1 r ∧ hbt s m0 r = c) 1 (m1 69 (c : Int))) ∧ (∀ r, r < rs.length → (Gp s rs m0 l b 1 r ∨ LT s rs m1 r 0) → LT s rs m2 r 0), noX, ?_, fun y μ' hy => ?_, fun _ _ z => z.elim⟩
  · refine K23_0 H hs hS ?_
    have z := pr_6 (d := d) (l := l) (μ := μ) (m0 := m1) (b := b) (v := 1) (w := (N : Int) + (n0 : Int)) (Q := pI (fun y μ' => ∃ m2, y = zI ((N : Int) + (n0 : Int) + (n1 : Int)) ∧ μ' = sA μ m2 l ∧ (∀ c j, ¬ WPl s ((N : Int) + (n0 : Int)) c j → m2 c j = m1 c j) ∧ (∀ i : Nat, i < n1 → m2 (s + 17) ((N : Int) + (n0 : Int) + (i : Int)) = ((fL (Gp s rs m0 l b 1) rs.length).getD i 0 : Int)) ∧ (∀ c, c < h → m2 69 (c : Int) = cif (∃ r, r < rs.length ∧ Gp s rs m0 l b 1 r ∧ hbt s m0 r = c) 1 (m1 69 (c : Int))) ∧ (∀ r, r < rs.length → (Gp s rs m0 l b 1 r ∨ LT s rs m1 r 0) → LT s rs m2 r 0)) noX) H hs hS hb (Or.inr rfl) (by omega) (by rw [eF1, hP1]; omega) hv1 hR1 (fun m2 u1 u2 u3 u4 => ?_) rs.length 0 m1 none (Nat.zero_add _) (fun _ _ _ => rfl) (fun i hi => absurd hi (Nat.not_lt_zero i)) (fun c hc => (cif_n (fun ⟨q, hq, _⟩ => absurd hq (Nat.not_lt_zero q))).symm) (fun q hq z => by
      rcases z with z | z
      · exact absurd z.1 (Nat.not_lt_zero q)
      · exact z)
    · have e0 : (N : Int) + (n0 : Int) + ((fL (Gp s rs m1 l b 1) 0).length : Int) = (N : Int) + (n0 : Int) := by
        show (N : Int) + (n0 : Int) + ((0 : Nat) : Int) = _
        omega
      rw [e0] at z
      exact z
    · rw [eF1] at u2 ⊢
      rw [hP1] at u2 ⊢
      refine ⟨m2, rfl, rfl, u1, u2, fun c hc => ?_, fun r hr z => u4 r hr ?_⟩
      · have eq : (∃ r, r < rs.length ∧ Gp s rs m1 l b 1 r ∧ hbt s m1 r = c) ↔ (∃ r, r < rs.length ∧ Gp s rs m0 l b 1 r ∧ hbt s m0 r = c) := ⟨fun ⟨r, z1, z2, z3⟩ => ⟨r, z1, (eG1 _ _ _).mp z2, by rw [← ehb1]; exact z3⟩, fun ⟨r, z1, z2, z3⟩ => ⟨r, z1, (eG1 _ _ _).mpr z2, by rw [ehb1]; exact z3⟩⟩
        rw [← propext eq]
        exact u3 c hc
      · rcases z with z | z
        · exact Or.inl ((eG1 _ _ _).mpr z)
        · exact Or.inr z
  obtain ⟨m2, rfl, rfl, u1, u2, u3, u4⟩ := hy
  have e17 : m2 s 17 = (B.length : Int) := by rw [u1 _ _ (by omega), q1 _ _ (by omega)]; exact g1
  refine K22_29 H hs hS ?_
  rw [e17]
  refine ⟨by omega, fun m3 em3 => ⟨by omega, up m3 (s + 18) ((B.length : Int) + 1) ((N : Int) + (n0 : Int) + (n1 : Int)), rfl, ?_⟩⟩
  have k4 : ∀ c j, ¬ ((c = s + 18 ∧ j = (B.length : Int) + 1) ∨ (c = s + 19 ∧ j = (B.length : Int)) ∨ (c = s ∧ j = 17)) → up m3 (s + 18) ((B.length : Int) + 1) ((N : Int) + (n0 : Int) + (n1 : Int)) c j = m2 c j := fun c j q => by rw [up_o (by omega), em3, up_o (by omega), up_o (by omega)]
  have k418 : up m3 (s + 18) ((B.length : Int) + 1) ((N : Int) + (n0 : Int) + (n1 : Int)) (s + 18) ((B.length : Int) + 1) = (N : Int) + (n0 : Int) + (n1 : Int) := up_s _ _ _ _
  have k419 : up m3 (s + 18) ((B.length : Int) + 1) ((N : Int) + (n0 : Int) + (n1 : Int)) (s + 19) (B.length : Int) = (N : Int) + (n0 : Int) := by rw [up_o (by omega), em3, up_o (by omega), up_s]
  have k417 : up m3 (s + 18) ((B.length : Int) + 1) ((N : Int) + (n0 : Int) + (n1 : Int)) s 17 = (B.length : Int) + 1 := by rw [up_o (by omega), em3, up_s]
  generalize up m3 (s + 18) ((B.length : Int) + 1) ((N : Int) + (n0 : Int) + (n1 : Int)) = m4 at k4 k418 k419 k417
  have kk : ∀ c j, ¬ WPl s (N : Int) c j → ¬ ((c = s + 18 ∧ j = (B.length : Int) + 1) ∨ (c = s + 19 ∧ j = (B.length : Int)) ∨ (c = s ∧ j = 17)) → m4 c j = m c j := fun c j q q' => by rw [k4 c j q', u1 c j (by omega), q1 c j q]
  have el : (B ++ [b]).length = B.length + 1 := by simp
  have mono : ∀ g : Nat, g ≤ B.length → m (s + 18) (g : Int) ≤ (N : Int) := by
    intro g hg
    rw [g2 g hg, ← hN]
    have := fL_sub (P := PB s m0 l (B.take g)) (Q := PB s m0 l B) (fun r ⟨x, hx, z⟩ => ⟨x, List.mem_of_mem_take hx, z⟩) rs.length
    omega
  refine ⟨fun c j q => by rw [kk c j (by omega) (by omega)]; exact fr c j q, kk _ _ (by omega) (by omega), ?_, fun g hg => ?_, fun g hg => ?_, fun g hg => ?_, fun c hc => ?_, fun r hr z => ?_⟩
  · rw [k417, el]; omega
  · rw [el] at hg
    by_cases c : g = B.length + 1
    · rw [c, show ((B.length + 1 : Nat) : Int) = (B.length : Int) + 1 by omega, k418, List.take_of_length_le (by omega), newN]
      omega
    · rw [kk _ _ (by omega) (by omega), g2 g (by omega), List.take_append_of_le_length (by omega)]
  · rw [el] at hg
    by_cases c : g = B.length
    · rw [c, getD_r, k419, kk _ _ (by omega) (by omega), gl, k418, hP0, hP1]
      exact ⟨rfl, rfl⟩
    · rw [getD_l _ _ _ (by omega), kk _ _ (by omega) (by omega), kk _ _ (by omega) (by omega), kk _ _ (by omega) (by omega)]
      exact g3 g (by omega)
  · rw [el] at hg
    by_cases c : g = B.length
    · rw [c, getD_r, k419, kk (s + 18) _ (by omega) (by omega), gl, hP0, hP1]
      refine ⟨fun i hi => ?_, fun i hi => ?_⟩
      · rw [k4 _ _ (by omega), u1 _ _ (by omega)]
        exact q2 i hi
      · rw [k4 _ _ (by omega)]
        exact u2 i hi
    · have g3' := g3 g (by omega)
      have mo := mono (g + 1) (by omega)
      rw [show ((g + 1 : Nat) : Int) = (g : Int) + 1 by omega] at mo
      rw [getD_l _ _ _ (by omega), kk (s + 18) _ (by omega) (by omega), kk (s + 19) _ (by omega) (by omega)]
      refine ⟨fun i hi => ?_, fun i hi => ?_⟩
      · rw [kk _ _ (by omega) (by omega)]
        exact (g4 g (by omega)).1 i hi
      · rw [kk _ _ (by omega) (by omega)]
        exact (g4 g (by omega)).2 i hi
  · rw [k4 _ _ (by omega), u3 c hc, q3 c hc, g5 c hc]
    obtain ⟨r, hr, er⟩ := hbt_on hv0 hR0 hc
    by_cases cs : sm l b c
    · rw [bP_1 (show ∃ x, x ∈ B ++ [b] ∧ sm l x c from ⟨b, List.mem_append_right _ (List.mem_singleton.mpr rfl), cs⟩)]
      rcases bP_b (Rec rs r) with y | y
      · by_cases e1 : ∃ r, r < rs.length ∧ Gp s rs m0 l b 1 r ∧ hbt s m0 r = c
        · rw [cif_p e1]
        · rw [cif_n e1, cif_p ⟨r, hr, ⟨by rw [er]; exact cs, y⟩, er⟩]
      · rw [cif_p ⟨r, hr, ⟨by rw [er]; exact cs, y⟩, er⟩]
    · have n1' : ¬ ∃ r, r < rs.length ∧ Gp s rs m0 l b 1 r ∧ hbt s m0 r = c := fun ⟨r, _, z2, z3⟩ => cs (by rw [← z3]; exact z2.1)
      have n0' : ¬ ∃ r, r < rs.length ∧ Gp s rs m0 l b 0 r ∧ hbt s m0 r = c := fun ⟨r, _, z2, z3⟩ => cs (by rw [← z3]; exact z2.1)
      rw [cif_n n1', cif_n n0']
      refine bP_cg ⟨fun ⟨x, hx, z⟩ => ⟨x, List.mem_append_left _ hx, z⟩, fun ⟨x, hx, z⟩ => ?_⟩
      rcases List.mem_append.mp hx with hx | hx
      · exact ⟨x, hx, z⟩
      · rw [List.mem_singleton.mp hx] at z; exact absurd z cs
  · have hL2 : LT s rs m2 r 0 := by
      rcases PB_app.mp z with z | z
      · exact u4 r hr (Or.inr (q4 r hr (Or.inr (g6 r hr z))))
      · rcases bP_b (Rec rs r) with y | y
        · exact u4 r hr (Or.inr (q4 r hr (Or.inl ⟨z, y⟩)))
        · exact u4 r hr (Or.inl ⟨z, y⟩)
    intro j h1 h2
    obtain ⟨u, w1, w2⟩ := hL2 j h1 h2
    exact ⟨u, by rw [k4 _ _ (by omega)]; exact w1, w2⟩
end CP15
