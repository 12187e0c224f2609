/-! ===== the reference: fitsAtom, unbind ===== -/
/-- the variables' terms at a level; what lies above it doesn't matter -/
def BdL (m : PM) (T : Nat) (lv : Int) (b : Nat → Option (List Cd)) : Prop := ∀ v : Nat, v < 8 → (b v = none → m 164 v = -1 ∨ (lv ≤ m 164 v ∧ m 164 v < 100)) ∧ ∀ q, b v = some q → (0 ≤ m 164 v ∧ m 164 v < lv) ∧ ∃ u : Nat, m 163 v = (u : Int) ∧ u < T ∧ Tg m u q
section RF3
variable {d : Nat} {μ : am_Mem} {l : PM} {T : Nat} {lv : Int}
theorem BdX_L {m : PM} {b0 b : Nat → Option (List Cd)} (hlv : 0 ≤ lv ∧ lv < 100) (h : BdX m T lv b0 b) : BdL m T lv b0 := by
  intro v hv
  obtain ⟨a1, a2, a3, a4⟩ := h v hv
  refine ⟨fun e => ?_, fun q e => ?_⟩
  · cases hb : b v with
    | none => exact Or.inl (a1 hb)
    | some q =>
      have := a4 e (by rw [hb]; exact fun z => nomatch z)
      exact Or.inr ⟨by omega, by omega⟩
  · obtain ⟨c1, c2⟩ := a3 q e
    obtain ⟨d1, d2⟩ := a2 q c1
    exact ⟨⟨d1.1, c2⟩, d2⟩
theorem BdX_U {m : PM} {b0 b : Nat → Option (List Cd)} (h : BdX m T lv b0 b) : BdL m T (lv + 1) b := by
  intro v hv
  obtain ⟨a1, a2, a3, a4⟩ := h v hv
  refine ⟨fun e => Or.inl (a1 e), fun q e => ?_⟩
  obtain ⟨d1, d2⟩ := a2 q e
  exact ⟨⟨d1.1, by omega⟩, d2⟩
/-- what was bound at a level and above it is free again -/
theorem c_unbind {m : PM} {b : Nat → Option (List Cd)} (H : RS μ) (hlv : 0 ≤ lv ∧ lv < 100) (hB : BdL m T lv b) : Wp d 232 (0, [some (.ref 125), some (.int (zI lv)), none], [], sA μ m l) (pV (fun μ' => ∃ m', μ' = sA μ m' l ∧ BdX m' T lv b b ∧ (∀ c j, ¬ (c = 163 ∨ c = 164) → m' c j = m c j) ∧ ∀ v : Nat, v < 8 → ¬ b v = none → m' 163 v = m 163 v ∧ m' 164 v = m 164 v) noX) := by
  have loop : ∀ (f i : Nat) (m' : PM), i + f = 8 → (∀ c j, ¬ (c = 163 ∨ c = 164) → m' c j = m c j) → (∀ v : Nat, v < 8 → m' 163 v = (if v < i then (if m 164 v < lv then m 163 v else -1) else m 163 v) ∧ m' 164 v = (if v < i then (if m 164 v < lv then m 164 v else -1) else m 164 v)) → Wp d 232 (2, [some (.ref 125), some (.int (zI lv)), some (.int (zI (i : Int)))], [], sA μ m' l) (pV (fun μ' => ∃ m', μ' = sA μ m' l ∧ BdX m' T lv b b ∧ (∀ c j, ¬ (c = 163 ∨ c = 164) → m' c j = m c j) ∧ ∀ v : Nat, v < 8 → ¬ b v = none → m' 163 v = m 163 v ∧ m' 164 v = m 164 v) noX) := by
    intro f
    induction f with
    | zero =>
      intro i m' hi fr g
      refine R232_2 H ⟨⟨by omega, by omega⟩, fun _ => ⟨m', rfl, fun v hv => ?_, fr, fun v hv hb => ?_⟩, fun z => by omega⟩
      · obtain ⟨g1, g2⟩ := g v hv
        rw [if_pos (by omega)] at g1 g2
        obtain ⟨a1, a2⟩ := hB v hv
        refine ⟨fun e => ?_, fun q e => ?_, fun q e => ⟨e, ?_⟩, fun e e' => absurd e e'⟩
        · rw [g2]
          rcases a1 e with y | y
          · rw [y]
            by_cases z : (-1 : Int) < lv
            · rw [if_pos z]
            · rw [if_neg z]
          · rw [if_neg (by omega)]
        · obtain ⟨c1, u, c2, c3, c4⟩ := a2 q e
          rw [if_pos c1.2] at g1 g2
          rw [g1, g2]
          exact ⟨⟨by omega, by omega⟩, u, c2, c3, Tg_ft (fun c j z => fr c j (by omega)) c4⟩
        · obtain ⟨c1, _⟩ := a2 q e
          rw [if_pos c1.2] at g2
          rw [g2]
          exact c1.2
      · obtain ⟨g1, g2⟩ := g v hv
        rw [if_pos (by omega)] at g1 g2
        cases hq : b v with
        | none => exact absurd hq hb
        | some q =>
          obtain ⟨c1, _⟩ := (hB v hv).2 q hq
          rw [if_pos c1.2] at g1 g2
          exact ⟨g1, g2⟩
    | succ f ih =>
      intro i m' hi fr g
      obtain ⟨g1, g2⟩ := g i (by omega)
      rw [if_neg (by omega)] at g1 g2
      have hR : iR (m 164 i) := by
        obtain ⟨a1, a2⟩ := hB i (by omega)
        cases hq : b i with
        | none =>
          rcases a1 hq with y | y
          · rw [y]; exact ⟨by decide, by decide⟩
          · exact ⟨by omega, by omega⟩
        | some q =>
          obtain ⟨c1, _⟩ := a2 q hq
          exact ⟨by omega, by omega⟩
      refine R232_2 H ⟨⟨by omega, by omega⟩, fun z => by omega, fun _ => ⟨⟨by omega, by omega⟩, by rw [g2]; exact hR, ⟨by omega, by omega⟩, ?_⟩⟩
      rw [g1, g2]
      rintro v1 e1 m2 e2 v3 e3 m4 e4
      refine ih (i + 1) m4 (by omega) (fun c j z => by rw [e4, up_c (by omega), e2, up_c (by omega)]; exact fr c j z) (fun v hv => ?_)
      by_cases w : v = i
      · have h1 : i < i + 1 := by omega
        rw [w]
        exact ⟨by rw [e4, up_c (by decide), e2, up_s, e1, if_pos h1], by rw [e4, up_s, e3, if_pos h1]⟩
      · obtain ⟨k1, k2⟩ := g v hv
        have q1 : m4 163 v = m' 163 v := by rw [e4, up_c (by decide), e2, up_i (by omega)]
        have q2 : m4 164 v = m' 164 v := by rw [e4, up_i (by omega), e2, up_c (by decide)]
        rw [q1, q2, k1, k2]
        by_cases y : v < i
        · have y' : v < i + 1 := by omega
          exact ⟨by rw [if_pos y, if_pos y'], by rw [if_pos y, if_pos y']⟩
        · have y' : ¬ v < i + 1 := by omega
          exact ⟨by rw [if_neg y, if_neg y'], by rw [if_neg y, if_neg y']⟩
  refine R232_0 H (loop 8 0 m (by omega) (fun _ _ _ => rfl) (fun v hv => ?_))
  rw [if_neg (Nat.not_lt_zero v), if_neg (Nat.not_lt_zero v)]
  exact ⟨rfl, rfl⟩
/-- an atom of a rule against one that holds -/
theorem c_fitsAtom {m : PM} {b : Nat → Option (List Cd)} {Q : Option Value ⊕ Nat → am_Mem → Prop} {a : Int} {h : Nat} {ps qs : List (List Cd)} (H : RS μ) (hI : TtI m T) (hU : TtU m T) (hD : NmD m) (h9 : m 125 9 ≤ 1010) (hlv : 0 ≤ lv ∧ lv < 100) (ha : 0 ≤ a ∧ a < 600) (hh : h < 1001) (hl : ps.length ≤ 4) (e137 : m 137 a = (ps.length : Int)) (hn : ∀ k : Nat, k < ps.length → (0 ≤ m 136 (4 * a + k) ∧ m 136 (4 * a + k) + ((ps.getD k []).length : Int) ≤ 1000) ∧ TmR 11 m (m 136 (4 * a + k)) (ps.getD k []) ∧ vbC (ps.getD k [])) (hq : ∀ k : Nat, k < ps.length → ∃ u : Nat, m 155 (4 * (h : Int) + k) = (u : Int) ∧ u < T ∧ Tg m u (qs.getD k [])) (hB : BdX m T lv b b)
    (hs : ∀ (m' : PM) (b' : Nat → Option (List Cd)), BdX m' T lv b b' → (∀ c j, ¬ WFt c j → m' c j = m c j) → (∀ v q, b v = some q → b' v = some q) → (∀ v, ¬ b' v = none → ¬ b v = none ∨ v < 8) → (∀ v : Nat, v < 8 → ¬ b v = none → m' 163 v = m 163 v ∧ m' 164 v = m 164 v) → (∀ β, Gb β → (Ext b' β ↔ (Ext b β ∧ ∀ k, k < ps.length → sbC β (ps.getD k []) = qs.getD k []))) → (∀ k, k < ps.length → ∀ c, c ∈ ps.getD k [] → 5 ≤ c.1 → ¬ b' (c.1 - 5) = none) → Q (.inl (some (.int (zI 1)))) (sA μ m' l))
    (hf : ∀ (m' : PM) (b' : Nat → Option (List Cd)), BdX m' T lv b b' → (∀ c j, ¬ WFt c j → m' c j = m c j) → (∀ v : Nat, v < 8 → ¬ b v = none → m' 163 v = m 163 v ∧ m' 164 v = m 164 v) → (∀ β, Gb β → Ext b β → ¬ ∀ k, k < ps.length → sbC β (ps.getD k []) = qs.getD k []) → Q (.inl (some (.int (zI 0)))) (sA μ m' l)) :
    Wp (d + 1) 233 (0, [some (.ref 125), some (.int (zI a)), some (.int (zI (h : Int))), some (.int (zI lv)), none, none], [], sA μ m l) Q := by
  have loop : ∀ (f j : Nat) (m1 : PM) (b1 : Nat → Option (List Cd)), j + f = ps.length → BdX m1 T lv b b1 → (∀ c j, ¬ WFt c j → m1 c j = m c j) → (∀ v q, b v = some q → b1 v = some q) → (∀ v, ¬ b1 v = none → ¬ b v = none ∨ v < 8) → (∀ v : Nat, v < 8 → ¬ b v = none → m1 163 v = m 163 v ∧ m1 164 v = m 164 v) → (∀ β, Gb β → (Ext b1 β ↔ (Ext b β ∧ ∀ k, k < j → sbC β (ps.getD k []) = qs.getD k []))) → (∀ k, k < j → ∀ c, c ∈ ps.getD k [] → 5 ≤ c.1 → ¬ b1 (c.1 - 5) = none) → Wp (d + 1) 233 (6, [some (.ref 125), some (.int (zI a)), some (.int (zI (h : Int))), some (.int (zI lv)), some (.int (zI 1)), some (.int (zI (j : Int)))], [], sA μ m1 l) Q := by
    intro f
    induction f with
    | zero =>
      intro j m1 b1 hj hB1 fr mono kA kB ex vars
      have ej : j = ps.length := by omega
      have e : m1 137 a = (ps.length : Int) := by rw [fr _ _ (by omega)]; exact e137
      rw [ej] at ex vars
      refine R233_6 H ⟨ha, ⟨by omega, by omega⟩, by rw [e]; exact ⟨by omega, by omega⟩, fun _ => ⟨Or.inr rfl, hs m1 b1 hB1 fr mono kA kB ex vars⟩, fun z => by omega⟩
    | succ f ih =>
      intro j m1 b1 hj hB1 fr mono kA kB ex vars
      have e : m1 137 a = (ps.length : Int) := by rw [fr _ _ (by omega)]; exact e137
      have e136 : m1 136 (4 * a + (j : Int)) = m 136 (4 * a + (j : Int)) := fr _ _ (by omega)
      have e155 : m1 155 (4 * (h : Int) + (j : Int)) = m 155 (4 * (h : Int) + (j : Int)) := fr _ _ (by omega)
      obtain ⟨n1, n2, n3⟩ := hn j (by omega)
      obtain ⟨u, u1, u2, u3⟩ := hq j (by omega)
      have hI1 : TtI m1 T := TtI_cg (fr _ _ (by omega)) (fun t _ => fr _ _ (by omega)) (fun t _ => fr _ _ (by omega)) (fun i _ _ => fr _ _ (by omega)) (fun i => by rw [fr _ _ (by omega)]; exact hI.2.2.1 i) (fun i _ => fr _ _ (by omega)) hI
      have hU1 : TtU m1 T := TtU_cg hI (fun t _ => fr _ _ (by omega)) (fun t _ => fr _ _ (by omega)) (fun i _ _ => fr _ _ (by omega)) hU
      have hD1 : NmD m1 := NmD_cg (fr _ _ (by omega)) (fun i => fr _ _ (by omega)) (fun i => fr _ _ (by omega)) hD
      refine R233_6 H ⟨ha, ⟨by omega, by omega⟩, by rw [e]; exact ⟨by omega, by omega⟩, fun z => by omega, fun _ => ⟨⟨by decide, by decide⟩, fun z => absurd z (by decide), fun _ => ⟨⟨by omega, by omega⟩, ⟨by omega, by omega⟩, fun y μ' => (y = zI 1 ∧ ∃ (m' : PM) (b' : Nat → Option (List Cd)), μ' = sA μ m' l ∧ BdX m' T lv b b' ∧ (∀ c j, ¬ WFt c j → m' c j = m1 c j) ∧ (∀ v q, b1 v = some q → b' v = some q) ∧ (∀ v, ¬ b' v = none → ¬ b1 v = none ∨ v < 8) ∧ (∀ v : Nat, v < 8 → ¬ b1 v = none → m' 163 v = m1 163 v ∧ m' 164 v = m1 164 v) ∧ (∀ β, Gb β → (Ext b' β ↔ (Ext b1 β ∧ sbC β (ps.getD j []) = qs.getD j []))) ∧ (∀ c, c ∈ ps.getD j [] → 5 ≤ c.1 → ¬ b' (c.1 - 5) = none)) ∨ (y = zI 0 ∧ ∃ (m' : PM) (b' : Nat → Option (List Cd)), μ' = sA μ m' l ∧ BdX m' T lv b b' ∧ (∀ c j, ¬ WFt c j → m' c j = m1 c j) ∧ (∀ v : Nat, v < 8 → ¬ b1 v = none → m' 163 v = m1 163 v ∧ m' 164 v = m1 164 v) ∧ (∀ β, Gb β → Ext b1 β → ¬ sbC β (ps.getD j []) = qs.getD j [])), noX, ?_, ?_, fun _ _ z => z.elim⟩⟩⟩
      · rw [e136, e155, u1]
        exact c_fits H hI1 hU1 hD1 (by rw [fr _ _ (by omega)]; exact h9) hlv n1 (TmR_ft fr n2) n3 u2 (Tg_ft fr u3) hB1 (fun m' b' y1 y2 y3 yA yB y4 y5 => Or.inl ⟨rfl, m', b', rfl, y1, y2, y3, yA, yB, y4, y5⟩) (fun m' b' y1 y2 yB y3 => Or.inr ⟨rfl, m', b', rfl, y1, y2, yB, y3⟩)
      · have sm : ∀ v, ¬ b v = none → ¬ b1 v = none := fun v hv z => by
          cases e : b v with
          | none => exact hv e
          | some q => exact nomatch (z.symm.trans (mono v q e))
        rintro y μ' (⟨rfl, m', b', rfl, y1, y2, y3, yA, yB, y4, y5⟩ | ⟨rfl, m', b', rfl, y1, y2, yB, y3⟩)
        · have kp : ∀ v : Nat, v < 8 → ¬ b v = none → m' 163 v = m 163 v ∧ m' 164 v = m 164 v := fun v hv8 hv => by
            rw [(yB v hv8 (sm v hv)).1, (yB v hv8 (sm v hv)).2]
            exact kB v hv8 hv
          refine R233_49 H ?_
          refine ih (j + 1) m' b' (by omega) y1 (fun c i z => by rw [y2 c i z]; exact fr c i z) (fun v q e => y3 v q (mono v q e)) (fun v hv => (yA v hv).elim (fun z => kA v z) Or.inr) (fun v hv8 hv => kp v hv8 hv) (fun β hβ => ?_) (fun k hk c hc h5 => ?_)
          · rw [y4 β hβ, ex β hβ]
            constructor
            · rintro ⟨⟨z1, z2⟩, z3⟩
              refine ⟨z1, fun k hk => ?_⟩
              by_cases w : k = j
              · rw [w]; exact z3
              · exact z2 k (by omega)
            · rintro ⟨z1, z2⟩
              exact ⟨⟨z1, fun k hk => z2 k (by omega)⟩, z2 j (by omega)⟩
          · by_cases w : k = j
            · rw [w] at hc
              exact y5 c hc h5
            · intro z
              cases hq1 : b1 (c.1 - 5) with
              | none => exact vars k (by omega) c hc h5 hq1
              | some q => exact nomatch (z.symm.trans (y3 _ _ hq1))
        · refine R233_49 H ?_
          have go : Q (.inl (some (.int (zI 0)))) (sA μ m' l) := hf m' b' y1 (fun c i z => by rw [y2 c i z]; exact fr c i z) (fun v hv8 hv => by rw [(yB v hv8 (sm v hv)).1, (yB v hv8 (sm v hv)).2]; exact kB v hv8 hv) (fun β hβ he z => y3 β hβ ((ex β hβ).mpr ⟨he, fun k hk => z k (by omega)⟩) (z j (by omega)))
          have e' : m' 137 a = (ps.length : Int) := by rw [y2 _ _ (by omega)]; exact e
          exact R233_6 H ⟨ha, ⟨by omega, by omega⟩, by rw [e']; exact ⟨by omega, by omega⟩, fun _ => ⟨Or.inl rfl, go⟩, fun _ => ⟨⟨by decide, by decide⟩, fun _ => ⟨Or.inl rfl, go⟩, fun z => absurd rfl z⟩⟩
  exact R233_0 H (loop ps.length 0 m b (by omega) hB (fun _ _ _ => rfl) (fun _ _ z => z) (fun _ z => Or.inl z) (fun _ _ _ => ⟨rfl, rfl⟩) (fun β _ => ⟨fun z => ⟨z, fun k hk => absurd hk (Nat.not_lt_zero k)⟩, fun z => z.1⟩) (fun k hk => absurd hk (Nat.not_lt_zero k)))
end RF3
