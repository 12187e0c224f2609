/-! ===== the reference: layers ===== -/
/-- what is left to rise -/
def smS (row : Int → Int) : Nat → Nat
  | 0 => 0
  | n + 1 => smS row n + (500 - row n).toNat
theorem smS_lt {row row' : Int → Int} {x : Nat} (h1 : ∀ y : Nat, ¬ y = x → row' y = row y) (h2 : row x < row' x) (h3 : row' x ≤ 500) : ∀ n : Nat, (x < n → smS row' n < smS row n) ∧ smS row' n ≤ smS row n := by
  intro n
  induction n with
  | zero => exact ⟨fun h => absurd h (Nat.not_lt_zero x), Nat.le_refl _⟩
  | succ n ih =>
    have e : smS row (n + 1) = smS row n + (500 - row n).toNat := rfl
    have e' : smS row' (n + 1) = smS row' n + (500 - row' n).toNat := rfl
    rw [e, e']
    by_cases y : n = x
    · rw [y]
      have := ih.2
      rw [y] at this
      exact ⟨fun _ => by omega, by omega⟩
    · rw [h1 n y]
      exact ⟨fun h => by have := ih.1 (by omega); omega, by have := ih.2; omega⟩
/-- the relations' numbers are no more than needed, and at most most -/
def LyI (rs : List Rul) (m : PM) (most : Int) : Prop := (0 ≤ most ∧ most ≤ 480) ∧ ∀ x w, nX m x w → 0 ≤ m 148 x ∧ m 148 x ≤ (lev0 rs w : Int) ∧ m 148 x ≤ most
/-- a condition asks for no more -/
def LyC (m : PM) (h : Int) (c : Nat × Atm) : Prop := ∀ x, nX m x c.2.1 → (c.1 = 1 → m 148 x ≤ m 148 h) ∧ (c.1 = 2 → m 148 x < m 148 h)
section RLY
variable {d : Nat} {μ : am_Mem} {l : PM} {rs : List Rul}
theorem c_layers {m0 : PM} (H : RS μ) (hv0 : RV m0 rs) (h6 : ∀ r, r < rs.length → ¬ Bad6 rs r) : Wp d 222 (0, [some (.ref 125), none, none, none, none, none, none], [], sA μ m0 l) (pI (fun y μ' => ∃ (m : PM) (most : Int), y = zI most ∧ μ' = sA μ m l ∧ LyI rs m most ∧ (∀ r, r < rs.length → ∀ j, j < (rs.getD r ruD).2.length → LyC m (m 135 (m 131 r)) ((rs.getD r ruD).2.getD j cnD)) ∧ ∀ c j, ¬ c = 148 → m c j = m0 c j) noX) := by
  have n60 := (RV_n hv0).2.1
  have n9 := (RV_n hv0).2.2.2.1
  have n9' := (RV_n hv0).2.2.1
  have hO := lev0_o h6
  have hok : ∀ ru, ru ∈ rs → ru.2.length ≤ 8 := fun ru hru => (hv0.2.2.2.2.2 ru hru).2.1
  have hlb : ∀ w, lev0 rs w ≤ 480 := fun w => by
    have a := lev0_b (rs := rs) w
    have b := ngL_b hok
    omega
  have rv : ∀ {m : PM}, (∀ c j, ¬ c = 148 → m c j = m0 c j) → RV m rs := fun fr => RV_cg2 (fun c j z => fr c j (by omega)) hv0
  have goal : ∀ (g : Nat) (m : PM) (most : Int) (x2 : Int) (o3 o4 o5 o6 : Option Value), smS (m 148) (m0 125 9).toNat ≤ g → (∀ c j, ¬ c = 148 → m c j = m0 c j) → LyI rs m most → (x2 = 1 ∨ (x2 = 0 ∧ ∀ r, r < rs.length → ∀ j, j < (rs.getD r ruD).2.length → LyC m (m 135 (m 131 r)) ((rs.getD r ruD).2.getD j cnD))) → Wp d 222 (27, [some (.ref 125), some (.int (zI most)), some (.int (zI x2)), o3, o4, o5, o6], [], sA μ m l) (pI (fun y μ' => ∃ (m : PM) (most : Int), y = zI most ∧ μ' = sA μ m l ∧ LyI rs m most ∧ (∀ r, r < rs.length → ∀ j, j < (rs.getD r ruD).2.length → LyC m (m 135 (m 131 r)) ((rs.getD r ruD).2.getD j cnD)) ∧ ∀ c j, ¬ c = 148 → m c j = m0 c j) noX) := by
    intro g
    induction g using Nat.strongRecOn with
    | _ g ih =>
      intro m most x2 o3 o4 o5 o6 hg fr hI hx2
      rcases hx2 with e | ⟨e, hc⟩
      rotate_left
      · exact R222_27 H ⟨by rw [e]; exact ⟨by decide, by decide⟩, fun _ => ⟨m, most, rfl, rfl, hI, hc, fr⟩, fun z => absurd e z⟩
      refine R222_27 H ⟨by rw [e]; exact ⟨by decide, by decide⟩, fun z => absurd z (by omega), fun _ => ?_⟩
      /- a pass over the rules -/
      have conds : ∀ (r : Nat), r < rs.length → ∀ (f j : Nat) (mc : PM) (mo x2 : Int) (o6 : Option Value), j + f = (rs.getD r ruD).2.length → (∀ c j, ¬ c = 148 → mc c j = m0 c j) → LyI rs mc mo → ((x2 = 0 ∧ (∀ i, mc 148 i = m 148 i) ∧ ∀ j', j' < j → LyC m (m 135 (m 131 r)) ((rs.getD r ruD).2.getD j' cnD)) ∨ (x2 = 1 ∧ smS (mc 148) (m0 125 9).toNat < g)) →
          (∀ (mc' : PM) (mo' x2' : Int) (o4 o5 o6 : Option Value), (∀ c j, ¬ c = 148 → mc' c j = m0 c j) → LyI rs mc' mo' → ((x2' = 0 ∧ x2 = 0 ∧ (∀ i, mc' 148 i = m 148 i) ∧ ∀ j', j' < (rs.getD r ruD).2.length → LyC m (m 135 (m 131 r)) ((rs.getD r ruD).2.getD j' cnD)) ∨ (x2' = 1 ∧ smS (mc' 148) (m0 125 9).toNat < g)) → Wp d 222 (35, [some (.ref 125), some (.int (zI mo')), some (.int (zI x2')), some (.int (zI ((r : Int) + 1))), o4, o5, o6], [], sA μ mc' l) (pI (fun y μ' => ∃ (m : PM) (most : Int), y = zI most ∧ μ' = sA μ m l ∧ LyI rs m most ∧ (∀ r, r < rs.length → ∀ j, j < (rs.getD r ruD).2.length → LyC m (m 135 (m 131 r)) ((rs.getD r ruD).2.getD j cnD)) ∧ ∀ c j, ¬ c = 148 → m c j = m0 c j) noX)) →
          Wp d 222 (64, [some (.ref 125), some (.int (zI mo)), some (.int (zI x2)), some (.int (zI (r : Int))), some (.int (zI (m0 135 (m0 131 (r : Int))))), some (.int (zI (m0 132 (r : Int) + (j : Int)))), o6], [], sA μ mc l) (pI (fun y μ' => ∃ (m : PM) (most : Int), y = zI most ∧ μ' = sA μ m l ∧ LyI rs m most ∧ (∀ r, r < rs.length → ∀ j, j < (rs.getD r ruD).2.length → LyC m (m 135 (m 131 r)) ((rs.getD r ruD).2.getD j cnD)) ∧ ∀ c j, ¬ c = 148 → m c j = m0 c j) noX) := by
        intro r hr
        obtain ⟨_, ⟨b1, b2, b3⟩, _⟩ := RV_rule hv0 hr
        intro f
        induction f with
        | zero =>
          intro j mc mo x2 o6 hj frc hIc hst hd
          have e132 : mc 132 ((r : Int) + 1) = m0 132 ((r : Int) + 1) := frc _ _ (by decide)
          refine R222_64 H ⟨⟨by omega, by omega⟩, ⟨by omega, by omega⟩, by rw [e132]; exact ⟨by omega, by omega⟩, fun _ => ?_, fun z => by rw [e132] at z; omega⟩
          refine hd mc mo x2 _ _ _ frc hIc ?_
          rcases hst with ⟨s1, s2, s3⟩ | s
          · exact Or.inl ⟨s1, s1, s2, fun j' hj' => s3 j' (by omega)⟩
          · exact Or.inr s
        | succ f ihf =>
          intro j mc mo x2 o6 hj frc hIc hst hd
          have hjl : j < (rs.getD r ruD).2.length := by omega
          have e132 : mc 132 ((r : Int) + 1) = m0 132 ((r : Int) + 1) := frc _ _ (by decide)
          have hvc := rv frc
          obtain ⟨c1, c2, c3, _, _, c6, _⟩ := RV_cond hv0 hr hjl
          obtain ⟨_, hd1, hd3, _, hd5, _⟩ := RV_head hv0 hr
          have hru : rs.getD r ruD ∈ rs := (mem_gD rs ruD _).mpr ⟨r, hr, rfl⟩
          have hcm : (rs.getD r ruD).2.getD j cnD ∈ (rs.getD r ruD).2 := (mem_gD _ cnD _).mpr ⟨j, hjl, rfl⟩
          have hLv := hO _ hru _ hcm
          generalize hc : (rs.getD r ruD).2.getD j cnD = c at *
          have hk3 : c.1 = 1 ∨ c.1 = 2 ∨ c.1 = 3 := by
            rcases c1.2 with y | y | y
            · exact Or.inl y
            · exact Or.inr (Or.inl y)
            · exact Or.inr (Or.inr y.1)
          have e133 : mc 133 (m0 132 (r : Int) + (j : Int)) = (c.1 : Int) := by rw [frc _ _ (by decide)]; exact c2
          have e134 : mc 134 (m0 132 (r : Int) + (j : Int)) = m0 134 (m0 132 (r : Int) + (j : Int)) := frc _ _ (by decide)
          have e135 : ∀ i, mc 135 i = m0 135 i := fun i => frc _ _ (by decide)
          have nxc : ∀ {x : Int} {w : List Int}, nX m0 x w → nX mc x w := fun {x w} h => nX_cg (frc _ _ (by decide)) (fun i => frc _ _ (by decide)) (fun i => frc _ _ (by decide)) h
          have hdI := hIc.2 _ _ (nxc hd3)
          have hbh := hlb (rs.getD r ruD).1.1
          refine R222_64 H ⟨⟨by omega, by omega⟩, ⟨by omega, by omega⟩, by rw [e132]; exact ⟨by omega, by omega⟩, fun z => by rw [e132] at z; omega, fun _ => ⟨⟨by omega, by omega⟩, by rw [e133]; exact ⟨by omega, by omega⟩, ⟨fun y => ?_, fun _ => trivial⟩, ?_⟩⟩
          · have hx := c6 (by rw [e133] at y; omega)
            have x1 := hx.1
            have x2' := hx.2.1
            rw [e134, e135]
            exact ⟨⟨by omega, by omega⟩, ⟨by omega, by omega⟩, trivial⟩
          rintro v1 e1
          rw [e133, e134, e135] at e1
          /- what the condition asks -/
          have ask : 0 ≤ v1 ∧ v1 ≤ (lev0 rs (rs.getD r ruD).1.1 : Int) ∧ (v1 ≤ mc 148 (m0 135 (m0 131 (r : Int))) → LyC mc (m0 135 (m0 131 (r : Int))) c) := by
            by_cases y3 : c.1 = 3
            · rw [if_neg (fun w => w (by rw [y3]; rfl))] at e1
              exact ⟨by omega, by omega, fun _ x _ => ⟨fun z => by omega, fun z => by omega⟩⟩
            · have hx := c6 (by omega)
              have hxc := nxc hx
              have hI2 := hIc.2 _ _ hxc
              rw [if_pos (by omega)] at e1
              have uq : ∀ x, nX mc x c.2.1 → x = m0 135 (m0 134 (m0 132 (r : Int) + (j : Int))) := fun x h => nX_in2 hvc.2.2.1 h hxc
              by_cases y2 : c.1 = 2
              · rw [if_neg (fun w => w (by rw [y2]; rfl))] at e1
                have := hLv.2 y2
                refine ⟨by omega, by omega, fun z x h => ⟨fun w => by omega, fun _ => ?_⟩⟩
                rw [uq x h]
                omega
              · rw [if_pos (by omega)] at e1
                have := hLv.1 (by omega)
                refine ⟨by omega, by omega, fun z x h => ⟨fun _ => ?_, fun w => by omega⟩⟩
                rw [uq x h]
                omega
          refine ⟨⟨by omega, by omega⟩, ⟨by omega, by omega⟩, ⟨by omega, by omega⟩, fun z => ?_, fun z => ⟨⟨by have := hIc.1; omega, by have := hIc.1; omega⟩, ?_⟩⟩
          · have go := ihf (j + 1) mc mo x2 (some (.int (zI v1))) (by omega) frc hIc (by
              rcases hst with ⟨s1, s2, s3⟩ | s
              · refine Or.inl ⟨s1, s2, fun j' hj' => ?_⟩
                by_cases w : j' = j
                · rw [w, hc]
                  intro x hx
                  have nxm : nX mc x c.2.1 := nX_cg ((frc _ _ (by decide)).trans (fr _ _ (by decide)).symm) (fun i => (frc _ _ (by decide)).trans (fr _ _ (by decide)).symm) (fun i => (frc _ _ (by decide)).trans (fr _ _ (by decide)).symm) hx
                  have z2 := ask.2.2 z x nxm
                  rw [s2, s2] at z2
                  rw [fr 135 _ (by decide), fr 131 _ (by decide)]
                  exact z2
                · exact s3 j' (by omega)
              · exact Or.inr s) hd
            rw [show m0 132 (r : Int) + ((j + 1 : Nat) : Int) = m0 132 (r : Int) + (j : Int) + 1 by omega] at go
            exact go
          · rintro m2 e2 v3 e3
            have f2 : ∀ c j, ¬ c = 148 → m2 c j = m0 c j := fun c' j' w => by rw [e2, up_c w]; exact frc c' j' w
            have nx2 : ∀ {x : Int} {w : List Int}, nX m2 x w → nX mc x w := fun {x w} h => nX_cg ((frc _ _ (by decide)).trans (f2 _ _ (by decide)).symm) (fun i => (frc _ _ (by decide)).trans (f2 _ _ (by decide)).symm) (fun i => (frc _ _ (by decide)).trans (f2 _ _ (by decide)).symm) h
            have hx4 : ((m0 135 (m0 131 (r : Int))).toNat : Int) = m0 135 (m0 131 (r : Int)) := by omega
            have hlt := (smS_lt (row := mc 148) (row' := m2 148) (x := (m0 135 (m0 131 (r : Int))).toNat) (fun y hy => by rw [e2, up_i (by omega)]) (by rw [hx4, e2, up_s]; omega) (by rw [hx4, e2, up_s]; omega) (m0 125 9).toNat).1 (by have := hd3.2.1; omega)
            have hI2 : LyI rs m2 v3 := by
              have hm3 : mo ≤ v3 ∧ v1 ≤ v3 ∧ v3 ≤ 480 := by
                rw [e3]
                have := hIc.1
                by_cases w : v1 ≤ mo
                · rw [if_pos w]; exact ⟨Int.le_refl _, w, this.2⟩
                · rw [if_neg w]; exact ⟨by omega, Int.le_refl _, by omega⟩
              refine ⟨⟨by have := hIc.1; omega, hm3.2.2⟩, fun x w hx => ?_⟩
              obtain ⟨q1, q2, q3⟩ := hIc.2 x w (nx2 hx)
              by_cases y : x = m0 135 (m0 131 (r : Int))
              · have ew : w = (rs.getD r ruD).1.1 := nX_fun (nx2 hx) (by rw [y]; exact nxc hd3)
                rw [y, e2, up_s, ew]
                exact ⟨ask.1, ask.2.1, hm3.2.1⟩
              · rw [e2, up_i y]
                exact ⟨q1, q2, by omega⟩
            have go := ihf (j + 1) m2 v3 1 (some (.int (zI v1))) (by omega) f2 hI2 (Or.inr ⟨rfl, by
              rcases hst with ⟨s1, s2, _⟩ | s
              · have es : smS (mc 148) (m0 125 9).toNat = smS (m 148) (m0 125 9).toNat := by rw [show mc 148 = m 148 from funext s2]
                omega
              · have := s.2
                omega⟩) (fun mc' mo' x2' o4 o5 o6 h1 h2 h3 => hd mc' mo' x2' o4 o5 o6 h1 h2 (by
                rcases h3 with ⟨_, w, _⟩ | w
                · exact absurd w (by decide)
                · exact Or.inr w))
            rw [show m0 132 (r : Int) + ((j + 1 : Nat) : Int) = m0 132 (r : Int) + (j : Int) + 1 by omega] at go
            exact go
      have rules : ∀ (f r : Nat) (mc : PM) (mo x2 : Int) (o4 o5 o6 : Option Value), r + f = rs.length → (∀ c j, ¬ c = 148 → mc c j = m0 c j) → LyI rs mc mo → ((x2 = 0 ∧ (∀ i, mc 148 i = m 148 i) ∧ ∀ r', r' < r → ∀ j, j < (rs.getD r' ruD).2.length → LyC m (m 135 (m 131 r')) ((rs.getD r' ruD).2.getD j cnD)) ∨ (x2 = 1 ∧ smS (mc 148) (m0 125 9).toNat < g)) → Wp d 222 (35, [some (.ref 125), some (.int (zI mo)), some (.int (zI x2)), some (.int (zI (r : Int))), o4, o5, o6], [], sA μ mc l) (pI (fun y μ' => ∃ (m : PM) (most : Int), y = zI most ∧ μ' = sA μ m l ∧ LyI rs m most ∧ (∀ r, r < rs.length → ∀ j, j < (rs.getD r ruD).2.length → LyC m (m 135 (m 131 r)) ((rs.getD r ruD).2.getD j cnD)) ∧ ∀ c j, ¬ c = 148 → m c j = m0 c j) noX) := by
        intro f
        induction f with
        | zero =>
          intro r mc mo x2 o4 o5 o6 hr frc hIc hst
          have hn := (RV_n (rv frc)).1
          refine R222_35 H ⟨⟨by omega, by omega⟩, by rw [hn]; exact ⟨by omega, by omega⟩, fun _ => ?_, fun z => by rw [hn] at z; omega⟩
          rcases hst with ⟨s1, s2, s3⟩ | ⟨s1, s2⟩
          · have hc : ∀ r, r < rs.length → ∀ j, j < (rs.getD r ruD).2.length → LyC mc (mc 135 (mc 131 r)) ((rs.getD r ruD).2.getD j cnD) := fun r' hr' j hj x hx => by
              have z := s3 r' (by omega) j hj x (nX_cg ((fr _ _ (by decide)).trans (frc _ _ (by decide)).symm) (fun i => (fr _ _ (by decide)).trans (frc _ _ (by decide)).symm) (fun i => (fr _ _ (by decide)).trans (frc _ _ (by decide)).symm) hx)
              rw [s2, s2, frc 135 _ (by decide), frc 131 _ (by decide)]
              rw [fr 135 _ (by decide), fr 131 _ (by decide)] at z
              exact z
            exact R222_27 H ⟨by rw [s1]; exact ⟨by decide, by decide⟩, fun _ => ⟨mc, mo, rfl, rfl, hIc, hc, frc⟩, fun z => absurd s1 z⟩
          · exact ih _ s2 mc mo x2 _ _ _ _ (Nat.le_refl _) frc hIc (Or.inl s1)
        | succ f ihf =>
          intro r mc mo x2 o4 o5 o6 hr frc hIc hst
          have hn := (RV_n (rv frc)).1
          have hlt : r < rs.length := by omega
          have hh := RV_head hv0 hlt
          obtain ⟨_, hd1, _⟩ := hh
          refine R222_35 H ⟨⟨by omega, by omega⟩, by rw [hn]; exact ⟨by omega, by omega⟩, fun z => by rw [hn] at z; omega, fun _ => ⟨⟨by omega, by omega⟩, by rw [frc _ _ (by decide)]; exact ⟨by omega, by omega⟩, ⟨by omega, by omega⟩, ?_⟩⟩
          rw [frc 131 _ (by decide), frc 135 _ (by decide), frc 132 _ (by decide)]
          have go := conds r hlt (rs.getD r ruD).2.length 0 mc mo x2 o6 (by omega) frc hIc (by
            rcases hst with ⟨s1, s2, _⟩ | s
            · exact Or.inl ⟨s1, s2, fun j' hj' => absurd hj' (Nat.not_lt_zero j')⟩
            · exact Or.inr s) (fun mc' mo' x2' o4 o5 o6 h1 h2 h3 => ihf (r + 1) mc' mo' x2' o4 o5 o6 (by omega) h1 h2 (by
              rcases h3 with ⟨w1, w2, w3, w4⟩ | w
              · rcases hst with ⟨s1, s2, s3⟩ | ⟨s1, _⟩
                · refine Or.inl ⟨w1, w3, fun r' hr' j hj => ?_⟩
                  by_cases y : r' = r
                  · rw [y] at hj ⊢
                    exact w4 j hj
                  · exact s3 r' (by omega) j hj
                · omega
              · exact Or.inr w))
          rw [show m0 132 (r : Int) + ((0 : Nat) : Int) = m0 132 (r : Int) by omega] at go
          exact go
      exact rules rs.length 0 m most 0 _ _ _ (by omega) fr hI (Or.inl ⟨rfl, fun _ => rfl, fun r' hr' => absurd hr' (Nat.not_lt_zero r')⟩)
  have init : ∀ (f i : Nat) (m : PM), ((i + f : Nat) : Int) = m0 125 9 → (∀ j : Nat, j < i → m 148 j = 0) → (∀ c j, ¬ c = 148 → m c j = m0 c j) → Wp d 222 (2, [some (.ref 125), some (.int (zI (i : Int))), none, none, none, none, none], [], sA μ m l) (pI (fun y μ' => ∃ (m : PM) (most : Int), y = zI most ∧ μ' = sA μ m l ∧ LyI rs m most ∧ (∀ r, r < rs.length → ∀ j, j < (rs.getD r ruD).2.length → LyC m (m 135 (m 131 r)) ((rs.getD r ruD).2.getD j cnD)) ∧ ∀ c j, ¬ c = 148 → m c j = m0 c j) noX) := by
    intro f
    induction f with
    | zero =>
      intro i m hi g1 fr
      have e9 : m 125 9 = m0 125 9 := fr _ _ (by decide)
      refine R222_2 H ⟨⟨by omega, by omega⟩, by rw [e9]; exact ⟨by omega, by omega⟩, fun _ => ?_, fun z => by omega⟩
      refine goal _ m 0 1 _ _ _ _ (Nat.le_refl _) fr ⟨⟨by decide, by decide⟩, fun x w hx => ?_⟩ (Or.inl rfl)
      have z := g1 x.toNat (by have := hx.1; have := hx.2.1; omega)
      rw [show ((x.toNat : Nat) : Int) = x by have := hx.1; omega] at z
      rw [z]
      exact ⟨by decide, by omega, by decide⟩
    | succ f ih =>
      intro i m hi g1 fr
      have e9 : m 125 9 = m0 125 9 := fr _ _ (by decide)
      refine R222_2 H ⟨⟨by omega, by omega⟩, by rw [e9]; exact ⟨by omega, by omega⟩, fun z => by omega, fun _ => ⟨⟨by omega, by omega⟩, ?_⟩⟩
      rintro m1 e1
      refine ih (i + 1) m1 (by omega) (fun j hj => ?_) (fun c j z => by rw [e1, up_c z]; exact fr c j z)
      by_cases w : j = i
      · rw [w, e1, up_s]
      · rw [e1, up_i (by omega)]
        exact g1 j (by omega)
  exact R222_0 H (init (m0 125 9).toNat 0 m0 (by omega) (fun j hj => absurd hj (Nat.not_lt_zero j)) (fun _ _ _ => rfl))
end RLY
