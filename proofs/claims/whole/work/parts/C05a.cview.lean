/-! ===== the class's sheet, as its checks see it ===== -/
/-- atoms and conditions but distinct don't have its name -/
def OkN (rs : List Rul) : Prop := ∀ ru, ru ∈ rs → ¬ ru.1.1 = wdL.getD 1 [] ∧ ∀ c, c ∈ ru.2 → c.1 < 3 → ¬ c.2.1 = wdL.getD 1 []
section OKN
variable {t : Int → Int} {n : Int}
theorem pPa_nm {dl i i' mn mx : Nat} {vs vs' : List (List Int)} {w : List Int} {a : Atm} (h : pPa t n dl i vs w mn mx = .inr (a, i', vs')) : a.1 = w := by
  unfold pPa at h
  cases z : pPs (tK t n) (pT t n dl) mn mx i vs [] with
  | inl x => rw [z] at h; cases h
  | inr y =>
    obtain ⟨ps, j, ws⟩ := y
    rw [z] at h
    cases h
    rfl
theorem pAt_nm {dl i i' : Nat} {vs vs' : List (List Int)} {a : Atm} (h : pAt t n dl i vs = .inr (a, i', vs')) : ¬ a.1 = wdL.getD 1 [] := by
  unfold pAt at h
  split at h
  · rename_i q
    cases h
    exact q.2.2
  · split at h
    · split at h
      · rename_i q
        rw [pPa_nm h]
        exact q.2.2
      · cases h
    · cases h
theorem pCo_nm {i i' : Nat} {vs vs' : List (List Int)} {c : Nat × Atm} (h : pCo t n i vs = .inr (c, i', vs')) : c.1 < 3 → ¬ c.2.1 = wdL.getD 1 [] := by
  unfold pCo at h
  split at h
  · cases z : pAt t n 7 (i + 2) vs with
    | inl x => rw [z] at h; cases h
    | inr y =>
      obtain ⟨a, j, ws⟩ := y
      rw [z] at h
      simp only at h
      split at h
      · cases h; exact fun _ => pAt_nm z
      · cases h
  · split at h
    · cases z : pPa t n 8 (i + 2) vs [] 2 2 with
      | inl x => rw [z] at h; cases h
      | inr y =>
        obtain ⟨a, j, ws⟩ := y
        rw [z] at h
        cases h
        exact fun q => absurd (show (3 : Nat) < 3 from q) (by decide)
    · cases z : pAt t n 8 i vs with
      | inl x => rw [z] at h; cases h
      | inr y =>
        obtain ⟨a, j, ws⟩ := y
        rw [z] at h
        cases h
        exact fun _ => pAt_nm z
theorem pCs_nm : ∀ (r i : Nat) (vs : List (List Int)) (acc cs : List (Nat × Atm)) (i' : Nat) (vs' : List (List Int)), (∀ c, c ∈ acc → c.1 < 3 → ¬ c.2.1 = wdL.getD 1 []) → pCs t n r i vs acc = .inr (cs, i', vs') → ∀ c, c ∈ cs → c.1 < 3 → ¬ c.2.1 = wdL.getD 1 [] := by
  intro r
  induction r with
  | zero =>
    intro i vs acc cs i' vs' ha h
    unfold pCs at h
    split at h
    · cases h; exact ha
    · cases h
  | succ r ih =>
    intro i vs acc cs i' vs' ha h
    unfold pCs at h
    split at h
    · cases h; exact ha
    · cases q : pCo t n i vs with
      | inl x => rw [q] at h; cases h
      | inr y =>
        obtain ⟨c, j, ws⟩ := y
        rw [q] at h
        refine ih j ws (acc ++ [c]) cs i' vs' (fun p hp => ?_) h
        rcases List.mem_append.mp hp with hp | hp
        · exact ha p hp
        · rw [List.mem_singleton.mp hp]; exact pCo_nm q
theorem pSh_nm : ∀ (r i : Nat) (acc rs : List Rul), OkN acc → pSh t n r i acc = .inr rs → OkN rs := by
  intro r
  induction r with
  | zero =>
    intro i acc rs ha h
    unfold pSh at h
    split at h
    · cases h; exact ha
    · cases h
  | succ r ih =>
    intro i acc rs ha h
    unfold pSh at h
    split at h
    · cases h; exact ha
    · cases q : pRu t n i with
      | inl x => rw [q] at h; cases h
      | inr y =>
        obtain ⟨ru, j⟩ := y
        rw [q] at h
        refine ih j (acc ++ [ru]) rs (fun p hp => ?_) h
        rcases List.mem_append.mp hp with hp | hp
        · exact ha p hp
        · rw [List.mem_singleton.mp hp]
          unfold pRu at q
          split at q
          · cases z : pAt t n 8 (i + 2) [] with
            | inl x => rw [z] at q; cases q
            | inr y =>
              obtain ⟨a, j2, ws⟩ := y
              rw [z] at q
              simp only at q
              cases w : pCs t n 8 j2 ws [] with
              | inl x => rw [w] at q; cases q
              | inr y =>
                obtain ⟨cs, j3, ws2⟩ := y
                rw [w] at q
                cases q
                exact ⟨pAt_nm z, pCs_nm 8 j2 ws [] cs _ ws2 (fun c hc => absurd hc List.not_mem_nil) w⟩
          · cases z : pAt t n 9 i [] with
            | inl x => rw [z] at q; cases q
            | inr y =>
              obtain ⟨a, j2, ws⟩ := y
              rw [z] at q
              cases q
              exact ⟨pAt_nm z, fun c hc => absurd hc List.not_mem_nil⟩
end OKN
/-- the class holds these rules, by these numbers of names -/
def KV (X : Int → List Int → Prop) (s : Nat) (m : PM) (rs : List Rul) : Prop := ShC X s m rs ∧ XP X ∧ ((∀ x w, X x w → x < 1024) ∧ ∀ k : Nat, k < 10 → X (k : Int) (wdC.getD k [])) ∧ OkS rs ∧ OkN rs
/-- what of the class's memory a sheet is -/
abbrev SHc (s c : Nat) (j : Int) : Prop := (c = s ∧ (j = 6 ∨ j = 13)) ∨ (s + 6 ≤ c ∧ c ≤ s + 13) ∨ c = s + 15 ∨ c = s + 16
theorem KV_cg {X : Int → List Int → Prop} {s : Nat} {m m' : PM} {rs : List Rul} (k : ∀ c j, SHc s c j → m' c j = m c j) (h : KV X s m rs) : KV X s m' rs := by
  obtain ⟨⟨h1, h2, h3, h4⟩, h5⟩ := h
  have e6 : m' s 6 = m s 6 := k _ _ (Or.inl ⟨rfl, Or.inl rfl⟩)
  refine ⟨⟨h1, by rw [e6]; exact h2, by rw [k _ _ (Or.inl ⟨rfl, Or.inr rfl⟩)]; exact h3, fun r hr => ?_⟩, h5⟩
  exact RuI_cg (by rw [e6]; exact Int.le_refl _) (fun i _ => ⟨k _ _ (by omega), k _ _ (by omega), k _ _ (by omega), k _ _ (by omega)⟩) (fun i _ => k _ _ (by omega)) (k _ _ (by omega)) (k _ _ (by omega)) (k _ _ (by omega)) (fun j _ => k _ _ (by omega)) (fun j _ => k _ _ (by omega)) (h4 r hr)
theorem psC_mem {cs : List (Nat × Atm)} {c : Nat × Atm} : c ∈ psC cs ↔ c ∈ cs ∧ c.1 = 1 := by
  unfold psC
  rw [List.mem_filter]
  simp
theorem otC_mem {cs : List (Nat × Atm)} {c : Nat × Atm} : c ∈ otC cs ↔ c ∈ cs ∧ ¬ c.1 = 1 := by
  unfold otC
  rw [List.mem_filter]
  simp
theorem ex_ps {cs : List (Nat × Atm)} {P : Nat × Atm → Prop} : (∃ i, i < (psC cs).length ∧ P ((psC cs).getD i cnD)) ↔ ∃ c, c ∈ cs ∧ c.1 = 1 ∧ P c := by
  constructor
  · rintro ⟨i, hi, h⟩
    have z := psC_mem.mp ((mem_gD (psC cs) cnD _).mpr ⟨i, hi, rfl⟩)
    exact ⟨_, z.1, z.2, h⟩
  · rintro ⟨c, hc, h1, h⟩
    obtain ⟨i, hi, e⟩ := (mem_gD (psC cs) cnD c).mp (psC_mem.mpr ⟨hc, h1⟩)
    exact ⟨i, hi, by rw [e]; exact h⟩
theorem ex_ot {cs : List (Nat × Atm)} {P : Nat × Atm → Prop} : (∃ i, i < (otC cs).length ∧ P ((otC cs).getD i cnD)) ↔ ∃ c, c ∈ cs ∧ ¬ c.1 = 1 ∧ P c := by
  constructor
  · rintro ⟨i, hi, h⟩
    have z := otC_mem.mp ((mem_gD (otC cs) cnD _).mpr ⟨i, hi, rfl⟩)
    exact ⟨_, z.1, z.2, h⟩
  · rintro ⟨c, hc, h1, h⟩
    obtain ⟨i, hi, e⟩ := (mem_gD (otC cs) cnD c).mp (otC_mem.mpr ⟨hc, h1⟩)
    exact ⟨i, hi, by rw [e]; exact h⟩
theorem PcR_cov {R : Int → List Cd → Prop} {B : Int → Prop} {r : Int → Int} {w : Int} : ∀ (ps : List (List Cd)) (j : Nat) (k : Int), (∀ x p, p ∈ ps → R x p → ∀ i, x + 1 - (p.length : Int) ≤ i → i ≤ x → B i) → PcR R r w j k ps → ∀ i, k ≤ i → i < k + (ps.flatten.length : Int) → B i := by
  intro ps
  induction ps with
  | nil =>
    intro j k _ _ i h1 h2
    have : ((([] : List (List Cd)).flatten.length : Nat) : Int) = 0 := rfl
    omega
  | cons p ps ih =>
    intro j k h hp i h1 h2
    obtain ⟨a1, a2, a3⟩ := hp
    have hl : ((p :: ps).flatten.length : Int) = p.length + ps.flatten.length := by simp
    by_cases c : i < k + (p.length : Int)
    · exact h _ p (by simp) a2 i (by omega) (by omega)
    · exact ih (j + 1) _ (fun x q hq => h x q (by simp [hq])) a3 i (by omega) (by omega)
section CVW
variable {X : Int → List Int → Prop} {s : Nat} {m : PM}
theorem TcR_bd (hX : XP X) : ∀ (f : Nat) (x : Int) (p : List Cd), (∀ c, c ∈ p → 5 ≤ c.1 → c.1 < 13) → TcR X s f m x p → ∀ k, x + 1 - (p.length : Int) ≤ k → k ≤ x → (-9 ≤ m (s + 6) k ∧ m (s + 6) k < 2048) ∧ 0 ≤ m (s + 7) k ∧ m (s + 7) k ≤ 4 := by
  intro f
  induction f with
  | zero => intro x p _ h; exact absurd h (fun z => z)
  | succ f ih =>
    intro x p hv h k k0 k1
    cases p with
    | nil => exact absurd h (fun z => z)
    | cons c rest =>
      obtain ⟨a, w⟩ := c
      have len1 : (((a, w) :: rest : List Cd).length : Int) = rest.length + 1 := by simp
      unfold TcR at h
      simp only at h
      obtain ⟨_, _, h3⟩ := h
      by_cases c5 : 5 ≤ a
      · rw [if_pos c5] at h3
        have hr : rest.length = 0 := by rw [h3.1]; rfl
        have ek : k = x := by omega
        have := hv (a, w) (by simp) c5
        simp only at this
        rw [ek]
        omega
      · rw [if_neg c5] at h3
        obtain ⟨ps, p1, p2, p3, p4, p5⟩ := h3
        by_cases ek : k = x
        · have := hX.1 _ _ p3
          rw [ek]
          omega
        · refine PcR_cov (B := fun k => (-9 ≤ m (s + 6) k ∧ m (s + 6) k < 2048) ∧ 0 ≤ m (s + 7) k ∧ m (s + 7) k ≤ 4) ps 0 _ (fun y q hq hR i i0 i1 => ih y q (fun c hc => hv c ?_) hR i i0 i1) p5 k (by omega) (by rw [p2]; omega)
          have hm : c ∈ ps.flatten := List.mem_flatten.mpr ⟨q, hq, hc⟩
          rw [p2] at hm
          simp [hm]
/-- a term's node -/
theorem tc_good (hX : XP X) {x : Int} {p : List Cd} (h : TcR X s 11 m x p) (hw : wfT 11 p) (h0 : 0 ≤ x + 1 - (p.length : Int)) (h1 : x < 1024) : GNc s m x := by
  obtain ⟨t1, t2, t3⟩ := TcR_top h
  refine ⟨by omega, by omega, fun k k0 k1 => ?_⟩
  have z := TcR_bd hX 11 x p (fun c hc h5 => (wfT_ok 11 p hw c hc h5).2) h k (by omega) k1
  unfold iR
  omega
/-- an atom of the class -/
theorem ac_nodes {N k : Int} {c : Nat × Atm} (h : AtC X s m N k c) : (0 ≤ k ∧ k < N) ∧ (if c.1 = 3 then m (s + 6) k = 9 else X (m (s + 6) k) c.2.1) ∧ (m (s + 7) k = (c.2.2.length : Int) ∧ c.2.2.length ≤ 4) ∧ m (s + 10) k = (vmC c.2.2.flatten : Int) ∧ ∀ j : Nat, j < c.2.2.length → ∃ x, m (s + 8) (4 * k + (j : Int)) = x ∧ 0 ≤ x + 1 - ((c.2.2.getD j []).length : Int) ∧ x < k ∧ TcR X s 11 m x (c.2.2.getD j []) := by
  obtain ⟨a1, a2, b1, b2, b3, b4, b5, b6⟩ := h
  refine ⟨⟨by omega, a1⟩, b1, ⟨b2, b5⟩, b3, fun j hj => ?_⟩
  obtain ⟨x, c1, c2, c3, c4, _⟩ := PcR_at c.2.2 0 _ b6 j hj
  rw [show ((0 + j : Nat) : Int) = (j : Int) by omega] at c1
  exact ⟨x, c1, by omega, by omega, c4⟩
theorem ac_good (hX : XP X) {N k : Int} {c : Nat × Atm} (hN : N ≤ 1000) (ok : OkA c.2) (h : AtC X s m N k c) : GAc s m k := by
  obtain ⟨⟨h0, h1⟩, h2, ⟨h3, h4⟩, h5, h6⟩ := ac_nodes h
  refine ⟨by omega, by omega, fun j j0 j1 => ?_⟩
  obtain ⟨x, c1, c2, c3, c4⟩ := h6 j.toNat (by omega)
  rw [show ((j.toNat : Nat) : Int) = j by omega] at c1
  rw [c1]
  exact tc_good hX c4 (ok.2 _ ((mem_gD c.2.2 [] _).mpr ⟨j.toNat, by omega, rfl⟩)) c2 (by omega)
theorem ac_T (hX : XP X) {N k y : Int} {c : Nat × Atm} {q : List Cd} (ok : OkA c.2) (h : AtC X s m N k c) (hy : TcR X s 11 m y q) (hq : wfT 11 q) : hcP s m k y ↔ q ∈ c.2.2 := by
  obtain ⟨⟨h0, h1⟩, h2, ⟨h3, h4⟩, h5, h6⟩ := ac_nodes h
  have key : ∀ x p, p ∈ c.2.2 → TcR X s 11 m x p → (acP s m x y ↔ p = q) := fun x p hp hx => tc_al hX hx hy (fun c' hc h5 => (wfT_ok 11 p (ok.2 p hp) c' hc h5).1) (fun c' hc h5 => (wfT_ok 11 q hq c' hc h5).1)
  constructor
  · rintro ⟨j, j0, j1, z⟩
    obtain ⟨x, c1, c2, c3, c4⟩ := h6 j.toNat (by omega)
    rw [show ((j.toNat : Nat) : Int) = j by omega] at c1
    rw [c1] at z
    have hm := (mem_gD c.2.2 [] _).mpr ⟨j.toNat, by omega, rfl⟩
    rw [← (key x _ hm c4).mp z]
    exact hm
  · intro hm
    obtain ⟨i, hi, e⟩ := (mem_gD c.2.2 [] q).mp hm
    obtain ⟨x, c1, c2, c3, c4⟩ := h6 i hi
    rw [e] at c4
    exact ⟨i, by omega, by omega, by rw [c1]; exact (key x q hm c4).mpr rfl⟩
/-- rule r as the class holds it -/
theorem KV_rule {rs : List Rul} (h : KV X s m rs) {r : Nat} (hr : r < rs.length) : RuI X s m (r : Int) (rs.getD r ruD).1 (rs.getD r ruD).2 ∧ OkR (rs.getD r ruD) ∧ (m s 13 = (rs.length : Int) ∧ rs.length ≤ 60) ∧ (0 ≤ m s 6 ∧ m s 6 ≤ 1000) ∧ (psC (rs.getD r ruD).2).length + (otC (rs.getD r ruD).2).length = (rs.getD r ruD).2.length ∧ (rs.getD r ruD).2.length ≤ 8 := by
  obtain ⟨⟨h1, h2, h3, h4⟩, h5, h6, h7, h8⟩ := h
  have ok := OkS_at h7 hr
  exact ⟨h4 r hr, ok, ⟨h3, h1⟩, h2, psot_len _, ok.2.1⟩
theorem KV_n {rs : List Rul} (h : KV X s m rs) : m s 13 = (rs.length : Int) ∧ rs.length ≤ 60 ∧ 0 ≤ m s 6 ∧ m s 6 ≤ 1000 := ⟨h.1.2.2.1, h.1.1, h.1.2.1.1, h.1.2.1.2⟩
/-- the head's node -/
theorem KV_head {rs : List Rul} (h : KV X s m rs) {r : Nat} (hr : r < rs.length) : AtC X s m (m s 6) (m (s + 11) (r : Int)) (1, (rs.getD r ruD).1) ∧ OkA (rs.getD r ruD).1 ∧ X (m (s + 6) (m (s + 11) (r : Int))) (rs.getD r ruD).1.1 ∧ (0 ≤ m (s + 6) (m (s + 11) (r : Int)) ∧ m (s + 6) (m (s + 11) (r : Int)) < 1024) ∧ (0 ≤ m (s + 11) (r : Int) ∧ m (s + 11) (r : Int) < 1000) := by
  obtain ⟨k1, k2, k3, k4, _⟩ := KV_rule h hr
  have hA := k1.1
  obtain ⟨⟨h0, h1⟩, h2, _⟩ := ac_nodes hA
  rw [if_neg (by show ¬ (1 : Nat) = 3; decide)] at h2
  have hx : X (m (s + 6) (m (s + 11) (r : Int))) (rs.getD r ruD).1.1 := h2
  exact ⟨hA, k2.1, hx, ⟨(h.2.1.1 _ _ hx).1, h.2.2.1.1 _ _ hx⟩, by omega⟩
/-- a condition's node -/
theorem KV_cond {rs : List Rul} (h : KV X s m rs) {r : Nat} (hr : r < rs.length) {k : Int} {c : Nat × Atm} (hc : c ∈ (rs.getD r ruD).2) (hA : AtC X s m (m s 6) k c) : OkC c ∧ (0 ≤ k ∧ k < 1000) ∧ (0 ≤ m (s + 6) k ∧ m (s + 6) k < 1024) ∧ (c.1 = 3 → m (s + 6) k = 9) ∧ (c.1 < 3 → X (m (s + 6) k) c.2.1 ∧ ¬ m (s + 6) k = 9) ∧ GAc s m k := by
  obtain ⟨k1, k2, k3, k4, _⟩ := KV_rule h hr
  obtain ⟨⟨h0, h1⟩, h2, _⟩ := ac_nodes hA
  have okc := k2.2.2 c hc
  have hX := h.2.1
  have g := ac_good hX k4.2 okc.1 hA
  have hru : rs.getD r ruD ∈ rs := (mem_gD rs ruD _).mpr ⟨r, hr, rfl⟩
  by_cases c3 : c.1 = 3
  · rw [if_pos c3] at h2
    exact ⟨okc, by omega, by omega, fun _ => h2, fun z => by omega, g⟩
  · rw [if_neg c3] at h2
    have hb := hX.1 _ _ h2
    have hb2 := h.2.2.1.1 _ _ h2
    refine ⟨okc, by omega, by omega, fun z => absurd z c3, fun z => ⟨h2, fun z9 => ?_⟩, g⟩
    have nm := (h.2.2.2.2 _ hru).2 c hc z
    rw [z9] at h2
    exact nm (hX.2.1 _ _ _ h2 hX.2.2.2.2)
theorem KV_pos {rs : List Rul} (h : KV X s m rs) {r j : Nat} (hr : r < rs.length) (hj : j < (psC (rs.getD r ruD).2).length) : (psC (rs.getD r ruD).2).getD j cnD ∈ (rs.getD r ruD).2 ∧ ((psC (rs.getD r ruD).2).getD j cnD).1 = 1 ∧ AtC X s m (m s 6) (m (s + 12) (8 * (r : Int) + (j : Int))) ((psC (rs.getD r ruD).2).getD j cnD) := by
  have z := psC_mem.mp ((mem_gD (psC (rs.getD r ruD).2) cnD _).mpr ⟨j, hj, rfl⟩)
  exact ⟨z.1, z.2, (KV_rule h hr).1.2.1.2 j hj⟩
theorem KV_oth {rs : List Rul} (h : KV X s m rs) {r j : Nat} (hr : r < rs.length) (hj : j < (otC (rs.getD r ruD).2).length) : (otC (rs.getD r ruD).2).getD j cnD ∈ (rs.getD r ruD).2 ∧ ¬ ((otC (rs.getD r ruD).2).getD j cnD).1 = 1 ∧ AtC X s m (m s 6) (m (s + 15) (8 * (r : Int) + (j : Int))) ((otC (rs.getD r ruD).2).getD j cnD) := by
  have z := otC_mem.mp ((mem_gD (otC (rs.getD r ruD).2) cnD _).mpr ⟨j, hj, rfl⟩)
  exact ⟨z.1, z.2, (KV_rule h hr).1.2.2.1.2 j hj⟩
/-- the words' numbers -/
theorem KV_word {rs : List Rul} (h : KV X s m rs) {x : Int} {w : List Int} (hx : X x w) {k : Nat} (hk : k < 10) : x = (k : Int) ↔ w = wdC.getD k [] := by
  have z := h.2.2.1.2 k hk
  constructor
  · intro e
    rw [e] at hx
    exact h.2.1.2.1 _ _ _ hx z
  · intro e
    rw [e] at hx
    exact h.2.1.2.2.1 _ _ _ hx z
end CVW
