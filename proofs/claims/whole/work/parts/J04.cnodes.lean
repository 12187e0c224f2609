/-! ===== the class's nodes: each is a term's root; how many have parts ===== -/
section CND2
variable {X : Int → List Int → Prop} {s : Nat}
theorem PcR_co3 {R : Int → List Cd → Prop} {B : Int → Prop} {r : Int → Int} {w : Int} {lo : Int} : ∀ (ps : List (List Cd)) (j : Nat) (k : Int), lo ≤ k → (∀ x p, p ∈ ps → R x p → lo ≤ x + 1 - (p.length : Int) → ∀ i, x + 1 - (p.length : Int) ≤ i → i ≤ x → B i) → PcR R r w j k ps → ∀ i, k ≤ i → i < k + (ps.flatten.length : Int) → B i := by
  intro ps
  induction ps with
  | nil =>
    intro j k _ _ _ i h1 h2
    have : ((([] : List (List Cd)).flatten.length : Nat) : Int) = 0 := rfl
    omega
  | cons p ps ih =>
    intro j k hk h hp i h1 h2
    obtain ⟨a1, a2, a3⟩ := hp
    have hl : ((p :: ps).flatten.length : Int) = p.length + ps.flatten.length := by simp
    by_cases c : i < k + (p.length : Int)
    · exact h _ p (by simp) a2 (by omega) i (by omega) (by omega)
    · exact ih (j + 1) _ (by omega) (fun x q hq => h x q (by simp [hq])) a3 i (by omega) (by omega)
/-- what a term has and its parts have, all its nodes have -/
theorem TcR_all {m : PM} {P : List Cd → Prop} (hP : ∀ (f : Nat) (w : List Int) (ps : List (List Cd)), ps.length ≤ 4 → (∀ p, p ∈ ps → wfS f p) → P ((ps.length, w) :: ps.flatten) → ∀ p, p ∈ ps → P p) : ∀ (f : Nat) (x : Int) (p : List Cd), f ≤ 11 → TcR X s f m x p → 0 ≤ x + 1 - (p.length : Int) → P p → ∀ i, x + 1 - (p.length : Int) ≤ i → i ≤ x → ∃ cs, TcR X s 11 m i cs ∧ P cs ∧ x + 1 - (p.length : Int) ≤ i + 1 - (cs.length : Int) := by
  intro f
  induction f with
  | zero => intro x p _ h; exact absurd h (fun z => z)
  | succ f ih =>
    intro x p hf h h0 hp i i0 i1
    cases p with
    | nil => exact absurd h (fun z => z)
    | cons c rest =>
      obtain ⟨a, w⟩ := c
      have len1 : (((a, w) :: rest : List Cd).length : Int) = rest.length + 1 := by simp
      by_cases ek : i = x
      · exact ⟨_, by rw [ek]; exact TcR_mono (f + 1) 11 x _ hf h, hp, by omega⟩
      · have h' := h
        unfold TcR at h'
        simp only at h'
        obtain ⟨h1, h2, h3⟩ := h'
        by_cases c5 : 5 ≤ a
        · rw [if_pos c5] at h3
          have hr : rest.length = 0 := by rw [h3.1]; rfl
          omega
        · rw [if_neg c5] at h3
          obtain ⟨ps, p1, p2, p3, p4, p5⟩ := h3
          have pl : (ps.flatten.length : Int) = rest.length := by rw [p2]
          have hwp : ∀ p, p ∈ ps → wfS f p := fun p hp => by
            obtain ⟨i, hi, e⟩ := mem_gD2 hp
            obtain ⟨y, _, _, _, y4, _⟩ := PcR_at ps 0 _ p5 i hi
            rw [← e]
            exact TcR_wf f y _ y4
          have hpp := hP f w ps (by omega) hwp (by rw [p1, p2]; exact hp)
          exact PcR_co3 (lo := x + 1 - (((a, w) :: rest : List Cd).length : Int)) (B := fun i => ∃ cs, TcR X s 11 m i cs ∧ P cs ∧ x + 1 - (((a, w) :: rest : List Cd).length : Int) ≤ i + 1 - (cs.length : Int)) ps 0 _ (by omega) (fun y q hq hR h0' i i0 i1 => by
            obtain ⟨cs, g1, g2, g3⟩ := ih y q (by omega) hR (by omega) (hpp q hq) i i0 i1
            exact ⟨cs, g1, g2, by omega⟩) p5 i (by omega) (by omega)
/-- bound, a node's term is one -/
theorem TcR_sb (hX : XP X) {m : PM} {β : Nat → List Cd} : ∀ (f f' : Nat) (k : Int) (cs cs' : List Cd), TcR X s f m k cs → TcR X s f' m k cs' → sbC β cs = sbC β cs' := by
  intro f
  induction f with
  | zero => intro f' k cs cs' h; exact absurd h (fun z => z)
  | succ f ih =>
    intro f' k cs cs' h h'
    cases f' with
    | zero => exact absurd h' (fun z => z)
    | succ f' =>
      cases cs with
      | nil => exact absurd h (fun z => z)
      | cons c rest =>
        cases cs' with
        | nil => exact absurd h' (fun z => z)
        | cons c' rest' =>
          obtain ⟨a, w⟩ := c
          obtain ⟨a', w'⟩ := c'
          unfold TcR at h h'
          simp only at h h'
          obtain ⟨_, _, h3⟩ := h
          obtain ⟨_, _, g3⟩ := h'
          by_cases ha : 5 ≤ a
          · rw [if_pos ha] at h3
            by_cases ha' : 5 ≤ a'
            · rw [if_pos ha'] at g3
              have ea : a = a' := by omega
              rw [h3.1, g3.1, sbC_var β ha, sbC_var β ha', ea]
            · rw [if_neg ha'] at g3
              obtain ⟨qs, q1, q2, q3, q4, q5⟩ := g3
              have := (hX.1 _ _ q3).1
              omega
          · rw [if_neg ha] at h3
            obtain ⟨ps, p1, p2, p3, p4, p5⟩ := h3
            have hl := (hX.1 _ _ p3).1
            by_cases ha' : 5 ≤ a'
            · rw [if_pos ha'] at g3
              omega
            · rw [if_neg ha'] at g3
              obtain ⟨qs, q1, q2, q3, q4, q5⟩ := g3
              have ea : a = a' := by omega
              have ew : w = w' := hX.2.1 _ _ _ p3 q3
              have ep : ps.map (sbC β) = qs.map (sbC β) := by
                refine ext_gD2 (by simp; omega) fun j hj => ?_
                have hj1 : j < ps.length := by simpa using hj
                have hj2 : j < qs.length := by omega
                obtain ⟨x, x1, x2, x3, x4, _⟩ := PcR_at ps 0 _ p5 j hj1
                obtain ⟨y, y1, y2, y3, y4, _⟩ := PcR_at qs 0 _ q5 j hj2
                have exy : x = y := x1.symm.trans y1
                rw [← exy] at y4
                have z := ih f' x _ _ x4 y4
                rw [List.getD_eq_getElem?_getD, List.getD_eq_getElem?_getD, List.getElem?_map, List.getElem?_map, List.getElem?_eq_getElem hj1, List.getElem?_eq_getElem hj2]
                rw [List.getD_eq_getElem?_getD, List.getD_eq_getElem?_getD, List.getElem?_eq_getElem hj1, List.getElem?_eq_getElem hj2] at z
                exact z
              rw [← p2, ← q2, ← p1, ← q1, sbC_name β (by omega), sbC_name β (by omega), ep, ew]
end CND2
/-- how many numbers from lo on are above 0 -/
def cA (r : Int → Int) (lo : Int) : Nat → Nat
  | 0 => 0
  | n + 1 => cA r lo n + if 0 < r (lo + n) then 1 else 0
theorem cA_app (r : Int → Int) (lo : Int) (n : Nat) : ∀ k, cA r lo (n + k) = cA r lo n + cA r (lo + n) k := by
  intro k
  induction k with
  | zero => rfl
  | succ k ih =>
    show cA r lo (n + k) + (if 0 < r (lo + ((n + k : Nat) : Int)) then 1 else 0) = cA r lo n + (cA r (lo + n) k + if 0 < r (lo + n + k) then 1 else 0)
    rw [ih, show lo + ((n + k : Nat) : Int) = lo + n + k by omega]
    omega
theorem cA_cg {r r' : Int → Int} {lo : Int} : ∀ {n : Nat}, (∀ i, lo ≤ i → i < lo + n → r' i = r i) → cA r' lo n = cA r lo n := by
  intro n
  induction n with
  | zero => intro _; rfl
  | succ n ih =>
    intro h
    show cA r' lo n + (if 0 < r' (lo + n) then 1 else 0) = cA r lo n + if 0 < r (lo + n) then 1 else 0
    rw [ih (fun i h1 h2 => h i h1 (by omega)), h _ (by omega) (by omega)]
/-- how many names have parts -/
def nIn (cs : List Cd) : Nat := (cs.filter (fun c => decide (0 < c.1 ∧ c.1 < 5))).length
theorem nIn_app (p q : List Cd) : nIn (p ++ q) = nIn p + nIn q := by
  unfold nIn
  rw [List.filter_append, List.length_append]
theorem nIn_c (c : Cd) (r : List Cd) : nIn (c :: r) = (if 0 < c.1 ∧ c.1 < 5 then 1 else 0) + nIn r := by
  unfold nIn
  by_cases h : 0 < c.1 ∧ c.1 < 5
  · rw [List.filter_cons_of_pos (by simpa using h), if_pos h, List.length_cons]
    omega
  · rw [List.filter_cons_of_neg (by simpa using h), if_neg h]
    omega
section CND3
variable {X : Int → List Int → Prop} {s : Nat}
theorem PcR_cA {R : Int → List Cd → Prop} {r : Int → Int} {w : Int} {ar : Int → Int} : ∀ (ps : List (List Cd)) (j : Nat) (k : Int), (∀ x p, p ∈ ps → R x p → cA ar (x + 1 - (p.length : Int)) p.length = nIn p) → PcR R r w j k ps → cA ar k ps.flatten.length = nIn ps.flatten := by
  intro ps
  induction ps with
  | nil => intro j k _ _; rfl
  | cons p ps ih =>
    intro j k h hp
    obtain ⟨a1, a2, a3⟩ := hp
    rw [List.flatten_cons, List.length_append, cA_app, nIn_app, ih (j + 1) _ (fun x q hq => h x q (List.mem_cons_of_mem _ hq)) a3]
    have z := h _ p List.mem_cons_self a2
    rw [show k + (p.length : Int) - 1 + 1 - (p.length : Int) = k by omega] at z
    rw [z]
theorem TcR_cA {m : PM} : ∀ (f : Nat) (x : Int) (p : List Cd), TcR X s f m x p → cA (m (s + 7)) (x + 1 - (p.length : Int)) p.length = nIn p := by
  intro f
  induction f with
  | zero => intro x p h; exact absurd h (fun z => z)
  | succ f ih =>
    intro x p h
    cases p with
    | nil => exact absurd h (fun z => z)
    | cons c rest =>
      obtain ⟨a, w⟩ := c
      unfold TcR at h
      simp only at h
      obtain ⟨h1, h2, h3⟩ := h
      rw [nIn_c, List.length_cons, show x + 1 - ((rest.length + 1 : Nat) : Int) = x - (rest.length : Int) by omega]
      show cA (m (s + 7)) (x - (rest.length : Int)) rest.length + (if 0 < m (s + 7) (x - (rest.length : Int) + (rest.length : Int)) then 1 else 0) = (if 0 < a ∧ a < 5 then 1 else 0) + nIn rest
      rw [show x - (rest.length : Int) + (rest.length : Int) = x by omega]
      by_cases c5 : 5 ≤ a
      · rw [if_pos c5] at h3
        rw [h3.2.2, h3.1, if_neg (by decide), if_neg (by omega)]
        rfl
      · rw [if_neg c5] at h3
        obtain ⟨ps, p1, p2, p3, p4, p5⟩ := h3
        have z := PcR_cA (ar := m (s + 7)) ps 0 _ (fun y q hq hR => ih y q hR) p5
        rw [p2] at z
        rw [z, p4]
        by_cases a0 : 0 < a
        · rw [if_pos (by omega), if_pos (by omega)]
          omega
        · rw [if_neg (by omega), if_neg (by omega)]
          omega
end CND3
/-- a text is longer than four times the names with parts -/
theorem tl_in : ∀ (f : Nat) (cs : List Cd), wfS f cs → gnd cs → NeC cs → 4 * (nIn cs : Int) + 1 ≤ tlC cs := by
  intro f
  induction f with
  | zero => intro cs h; exact absurd h (fun z => z)
  | succ f ih =>
    intro cs hw hg hn
    cases cs with
    | nil => exact absurd hw (fun z => z)
    | cons c rest =>
      obtain ⟨a, w⟩ := c
      have ha : a < 5 := hg (a, w) List.mem_cons_self
      obtain ⟨ps, h1, h2, h3⟩ := (wfS_n (by omega)).mp hw
      have hw1 : 1 ≤ w.length := (hn (a, w) List.mem_cons_self ha).1
      have sum : ∀ qs : List (List Cd), (∀ p, p ∈ qs → wfS f p ∧ gnd p ∧ NeC p) → 4 * (nIn qs.flatten : Int) + (qs.length : Int) ≤ tlC qs.flatten := by
        intro qs
        induction qs with
        | nil => intro _; exact Int.le_refl _
        | cons p qs ihq =>
          intro hq
          obtain ⟨q1, q2, q3⟩ := hq p List.mem_cons_self
          have z1 := ih p q1 q2 q3
          have z2 := ihq (fun p hp => hq p (List.mem_cons_of_mem _ hp))
          rw [List.flatten_cons, nIn_app, List.length_cons]
          have z3 : tlC (p ++ qs.flatten) = tlC p + tlC qs.flatten := by
            unfold tlC
            rw [List.map_append, List.sum_append]
          rw [z3]
          omega
      have z := sum ps (fun p hp => ⟨h3 p hp, fun c hc => hg c (List.mem_cons_of_mem _ (by rw [← h2]; exact List.mem_flatten.mpr ⟨p, hp, hc⟩)), fun c hc => hn c (List.mem_cons_of_mem _ (by rw [← h2]; exact List.mem_flatten.mpr ⟨p, hp, hc⟩))⟩)
      rw [h2, h1] at z
      rw [nIn_c]
      have e : tlC ((a, w) :: rest) = ((w.length : Int) + (if a = 0 then 0 else 2 + (a : Int))) + tlC rest := by
        unfold tlC
        rw [List.map_cons, List.sum_cons]
      rw [e]
      show 4 * (((if 0 < a ∧ a < 5 then 1 else 0) + nIn rest : Nat) : Int) + 1 ≤ _
      by_cases a0 : a = 0
      · rw [if_neg (by omega), if_pos a0]
        omega
      · rw [if_pos (by omega), if_neg a0]
        omega
theorem in_11 {f : Nat} {cs : List Cd} (hw : wfS f cs) (hg : gnd cs) (hn : NeC cs) (h48 : tlC cs ≤ 48) : nIn cs ≤ 11 := by
  have := tl_in f cs hw hg hn
  omega
theorem nIn_sb (β : Nat → List Cd) : ∀ cs : List Cd, nIn cs ≤ nIn (sbC β cs) := by
  intro cs
  induction cs with
  | nil => exact Nat.le_refl _
  | cons c r ih =>
    have e : sbC β (c :: r) = (if 5 ≤ c.1 then β (c.1 - 5) else [c]) ++ sbC β r := by
      unfold sbC
      rw [List.flatMap_cons]
    rw [e, nIn_app, nIn_c]
    by_cases q : 5 ≤ c.1
    · rw [if_pos q, if_neg (by omega)]
      omega
    · rw [if_neg q, nIn_c]
      have : nIn [] = 0 := rfl
      omega
