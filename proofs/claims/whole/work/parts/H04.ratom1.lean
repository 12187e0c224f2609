/-! ===== the reference's held atoms: the table, find ===== -/
theorem zAnd_r12 (x : Int) : ∃ t : Nat, t < 4096 ∧ zAnd x 4095 = (t : Int) := zAnd_rk 12 (by decide) x
theorem zAnd_n12 (q : Nat) (h : q < 4096) : zAnd ((q : Int) + 1) 4095 = (((q + 1) % 4096 : Nat) : Int) := zAnd_nk 12 (by decide) q h
/-- the first index of a relation; the next one of the same relation -/
def fsF (r : Int → Int) (x : Int) : Nat → Int
  | 0 => -1
  | f + 1 => if 0 ≤ fsF r x f then fsF r x f else if r f = x then (f : Int) else -1
def nxF (r : Int → Int) (a : Nat) : Nat → Int
  | 0 => -1
  | f + 1 => if 0 ≤ nxF r a f then nxF r a f else if a < f ∧ r f = r a then (f : Int) else -1
theorem fsF_sp (r : Int → Int) (x : Int) : ∀ F : Nat, (fsF r x F = -1 ∧ ∀ g : Nat, g < F → ¬ r g = x) ∨ ∃ c : Nat, fsF r x F = (c : Int) ∧ c < F ∧ r c = x ∧ ∀ g : Nat, g < c → ¬ r g = x := by
  intro F
  induction F with
  | zero => exact Or.inl ⟨rfl, fun g hg => absurd hg (Nat.not_lt_zero g)⟩
  | succ F ih =>
    have e : fsF r x (F + 1) = if 0 ≤ fsF r x F then fsF r x F else if r F = x then (F : Int) else -1 := rfl
    rcases ih with ⟨h1, h2⟩ | ⟨c, h1, h2, h3, h4⟩
    · rw [if_neg (by omega)] at e
      by_cases y : r F = x
      · rw [if_pos y] at e
        exact Or.inr ⟨F, e, by omega, y, h2⟩
      · rw [if_neg y] at e
        refine Or.inl ⟨e, fun g hg => ?_⟩
        by_cases z : g = F
        · rw [z]; exact y
        · exact h2 g (by omega)
    · rw [if_pos (by omega)] at e
      exact Or.inr ⟨c, e.trans h1, by omega, h3, h4⟩
theorem nxF_sp (r : Int → Int) (a : Nat) : ∀ F : Nat, (nxF r a F = -1 ∧ ∀ g : Nat, a < g → g < F → ¬ r g = r a) ∨ ∃ c : Nat, nxF r a F = (c : Int) ∧ a < c ∧ c < F ∧ r c = r a ∧ ∀ g : Nat, a < g → g < c → ¬ r g = r a := by
  intro F
  induction F with
  | zero => exact Or.inl ⟨rfl, fun g _ hg => absurd hg (Nat.not_lt_zero g)⟩
  | succ F ih =>
    have e : nxF r a (F + 1) = if 0 ≤ nxF r a F then nxF r a F else if a < F ∧ r F = r a then (F : Int) else -1 := rfl
    rcases ih with ⟨h1, h2⟩ | ⟨c, h1, h2, h3, h4, h5⟩
    · rw [if_neg (by omega)] at e
      by_cases y : a < F ∧ r F = r a
      · rw [if_pos y] at e
        exact Or.inr ⟨F, e, y.1, by omega, y.2, h2⟩
      · rw [if_neg y] at e
        refine Or.inl ⟨e, fun g h0 hg => ?_⟩
        by_cases z : g = F
        · rw [z]
          rw [z] at h0
          exact fun w => y ⟨h0, w⟩
        · exact h2 g h0 (by omega)
    · rw [if_pos (by omega)] at e
      exact Or.inr ⟨c, e.trans h1, h2, by omega, h4, h5⟩
theorem lsF_sp (r : Int → Int) (x : Int) : ∀ F : Nat, (lsF r x F = -1 ∧ ∀ g : Nat, g < F → ¬ r g = x) ∨ ∃ c : Nat, lsF r x F = (c : Int) ∧ c < F ∧ r c = x ∧ ∀ g : Nat, c < g → g < F → ¬ r g = x := by
  intro F
  induction F with
  | zero => exact Or.inl ⟨rfl, fun g hg => absurd hg (Nat.not_lt_zero g)⟩
  | succ F ih =>
    have e : lsF r x (F + 1) = if r F = x then (F : Int) else lsF r x F := rfl
    by_cases y : r F = x
    · rw [if_pos y] at e
      exact Or.inr ⟨F, e, by omega, y, fun g h1 h2 => by omega⟩
    · rw [if_neg y] at e
      rcases ih with ⟨h1, h2⟩ | ⟨c, h1, h2, h3, h4⟩
      · refine Or.inl ⟨e.trans h1, fun g hg => ?_⟩
        by_cases z : g = F
        · rw [z]; exact y
        · exact h2 g (by omega)
      · refine Or.inr ⟨c, e.trans h1, by omega, h3, fun g g1 g2 => ?_⟩
        by_cases z : g = F
        · rw [z]; exact y
        · exact h4 g g1 (by omega)
theorem cnF_sp (r : Int → Int) (x : Int) : ∀ F : Nat, cnF r x F = 0 ↔ ∀ g : Nat, g < F → ¬ r g = x := by
  intro F
  induction F with
  | zero => exact ⟨fun _ g hg => absurd hg (Nat.not_lt_zero g), fun _ => rfl⟩
  | succ F ih =>
    have e : cnF r x (F + 1) = cnF r x F + (if r F = x then 1 else 0) := rfl
    have h0 := (cnF_r r x F).1
    by_cases y : r F = x
    · rw [if_pos y] at e
      exact ⟨fun z => by omega, fun z => absurd y (z F (by omega))⟩
    · rw [if_neg y] at e
      rw [e, Int.add_zero, ih]
      constructor
      · intro h g hg
        by_cases z : g = F
        · rw [z]; exact y
        · exact h g (by omega)
      · exact fun h g hg => h g (by omega)
theorem fsF_cg {r r' : Int → Int} {x : Int} : ∀ F : Nat, (∀ f : Nat, f < F → r f = r' f) → fsF r x F = fsF r' x F := by
  intro F
  induction F with
  | zero => intro _; rfl
  | succ F ih =>
    intro h
    show (if 0 ≤ fsF r x F then fsF r x F else if r F = x then (F : Int) else -1) = if 0 ≤ fsF r' x F then fsF r' x F else if r' F = x then (F : Int) else -1
    rw [ih (fun f hf => h f (by omega)), h F (by omega)]
theorem nxF_cg {r r' : Int → Int} {a : Nat} : ∀ F : Nat, a < F → (∀ f : Nat, f < F → r f = r' f) → nxF r a F = nxF r' a F := by
  intro F
  induction F with
  | zero => intro h; exact absurd h (Nat.not_lt_zero a)
  | succ F ih =>
    intro ha h
    have e : nxF r a F = nxF r' a F := by
      by_cases z : a < F
      · exact ih z (fun f hf => h f (by omega))
      · rcases nxF_sp r a F with ⟨h1, _⟩ | ⟨c, _, h2, h3, _⟩
        · rcases nxF_sp r' a F with ⟨g1, _⟩ | ⟨c, _, g2, g3, _⟩
          · rw [h1, g1]
          · omega
        · omega
    show (if 0 ≤ nxF r a F then nxF r a F else if a < F ∧ r F = r a then (F : Int) else -1) = if 0 ≤ nxF r' a F then nxF r' a F else if a < F ∧ r' F = r' a then (F : Int) else -1
    rw [e, h F (by omega), h a ha]
/-- where an atom's way begins -/
def asN (x : Int) (ps : List Int) : Int := ps.foldl (fun h p => h * 1000003 + p) x
def asP (x : Int) (ps : List Int) : Int := zAnd (zXor (asN x ps) (zUsh (asN x ps) 13)) 4095
theorem asN_snoc (x : Int) (ps : List Int) (p : Int) : asN x (ps ++ [p]) = asN x ps * 1000003 + p := by simp [asN]
/-- atom a is of this relation and has these terms -/
def isA (m : PM) (a : Int) (x : Int) (ps : List Int) : Prop := m 154 a = x ∧ sl (m 155) (4 * a) ps.length = ps
/-- the table of held atoms: F of them; W: how many terms a relation has -/
def HdI (W : Int → Nat) (m : PM) (F : Nat) : Prop := m 125 48 = (F : Int) ∧ F ≤ 1000 ∧ (∀ a : Nat, a < F → (0 ≤ m 154 a ∧ m 154 a < m 125 9) ∧ W (m 154 a) ≤ 4 ∧ (∀ k : Nat, k < W (m 154 a) → 0 ≤ m 155 (4 * (a : Int) + k) ∧ m 155 (4 * (a : Int) + k) < 130000) ∧ m 156 a = nxF (m 154) a F) ∧ (∀ x : Int, 0 ≤ x → x < m 125 9 → m 160 x = cnF (m 154) x F ∧ m 158 x = fsF (m 154) x F ∧ (0 < cnF (m 154) x F → m 159 x = lsF (m 154) x F)) ∧ (∀ i : Nat, i < 4096 → 0 ≤ m 157 i ∧ m 157 i ≤ (F : Int)) ∧ HT 4096 (fun i => (m 157 i).toNat) (fun a => (asP (m 154 a) (sl (m 155) (4 * (a : Int)) (W (m 154 a)))).toNat) F
section RA1
variable {d : Nat} {μ : am_Mem} {m l : PM} {Q : Option Value ⊕ Nat → am_Mem → Prop} {x : Int} {c F : Nat} {W : Int → Nat}
theorem c_atomSpot (H : RS μ) (hc : c ≤ 4) : Wp d 219 (0, [some (.ref 125), some (.int (zI x)), some (.int (zI (c : Int))), none, none], [], sA μ m l) (pI (fun y μ' => y = zI (asP x (sl (m 168) 0 c)) ∧ μ' = sA μ m l) noX) := by
  have loop : ∀ (f j : Nat), j + f = c → Wp d 219 (5, [some (.ref 125), some (.int (zI x)), some (.int (zI (c : Int))), some (.int (zI (asN x (sl (m 168) 0 j)))), some (.int (zI (j : Int)))], [], sA μ m l) (pI (fun y μ' => y = zI (asP x (sl (m 168) 0 c)) ∧ μ' = sA μ m l) noX) := by
    intro f
    induction f with
    | zero =>
      intro j hj
      rw [show j = c by omega]
      exact R219_5 H ⟨⟨by omega, by omega⟩, ⟨by omega, by omega⟩, fun _ => ⟨rfl, rfl⟩, fun z => by omega⟩
    | succ f ih =>
      intro j hj
      refine R219_5 H ⟨⟨by omega, by omega⟩, ⟨by omega, by omega⟩, fun z => by omega, fun _ => ⟨⟨by omega, by omega⟩, ?_⟩⟩
      rintro v1 e1
      have z := ih (j + 1) (by omega)
      rw [sl_succ, asN_snoc, show (0 : Int) + (j : Int) = (j : Int) by omega, ← e1] at z
      exact z
  exact R219_0 H (loop c 0 (by omega))
/-- are the terms the same -/
theorem fd_47 {a : Nat} {x3 : Int} (H : RS μ) (ha : a < 1000) (hc : c ≤ 4) (hR : ∀ k : Nat, k < c → iR (m 168 k)) (hR2 : m 154 a = x → ∀ k : Nat, k < c → iR (m 155 (4 * (a : Int) + k)))
    (hy : isA m a x (sl (m 168) 0 c) → Q (.inl (some (.int (zI (a : Int))))) (sA μ m l))
    (hn : ¬ isA m a x (sl (m 168) 0 c) → ∀ o4 o5 o6 : Option Value, Wp (d + 1) 218 (7, [some (.ref 125), some (.int (zI x)), some (.int (zI (c : Int))), some (.int (zI (zAnd (x3 + 1) 4095))), o4, o5, o6], [], sA μ m l) Q) : ∀ (f j : Nat) (v : Int), j + f = c → v = bP (m 154 a = x ∧ ∀ i : Nat, i < j → m 155 (4 * (a : Int) + i) = m 168 i) → Wp (d + 1) 218 (47, [some (.ref 125), some (.int (zI x)), some (.int (zI (c : Int))), some (.int (zI x3)), some (.int (zI (a : Int))), some (.int (zI v)), some (.int (zI (j : Int)))], [], sA μ m l) Q := by
  have key : isA m a x (sl (m 168) 0 c) ↔ (m 154 a = x ∧ ∀ i : Nat, i < c → m 155 (4 * (a : Int) + i) = m 168 i) := by
    unfold isA
    rw [sl_len, sl_eq]
    constructor
    · rintro ⟨a1, _, a3⟩
      exact ⟨a1, fun i hi => by rw [a3 i hi]; congr 1; omega⟩
    · rintro ⟨a1, a2⟩
      exact ⟨a1, rfl, fun i hi => by rw [a2 i hi]; congr 1; omega⟩
  have fin : ∀ (j : Nat) (v : Int), iR v → (v = 0 → ¬ isA m a x (sl (m 168) 0 c)) → (¬ v = 0 → isA m a x (sl (m 168) 0 c)) → Wp (d + 1) 218 (93, [some (.ref 125), some (.int (zI x)), some (.int (zI (c : Int))), some (.int (zI x3)), some (.int (zI (a : Int))), some (.int (zI v)), some (.int (zI (j : Int)))], [], sA μ m l) Q := fun j v hv h1 h2 => R218_93 H ⟨hv, fun z => hn (h1 z) _ _ _, fun z => hy (h2 z)⟩
  intro f
  induction f with
  | zero =>
    intro j v hj ev
    have ej : j = c := by omega
    refine R218_47 H ⟨⟨by omega, by omega⟩, ⟨by omega, by omega⟩, fun _ => fin j v (by rw [ev]; exact bP_R _) (fun z w => ?_) (fun z => ?_), fun z => by omega⟩
    · rw [ev] at z
      rw [ej] at z
      exact bP_z.mp z (key.mp w)
    · rw [ev] at z
      rw [ej] at z
      exact key.mpr (Classical.byContradiction fun w => z (bP_0 w))
  | succ f ih =>
    intro j v hj ev
    refine R218_47 H ⟨⟨by omega, by omega⟩, ⟨by omega, by omega⟩, fun z => by omega, fun _ => ⟨by rw [ev]; exact bP_R _, fun z => fin j v (by rw [ev]; exact bP_R _) (fun z w => ?_) (fun w => absurd z w), fun z => ?_⟩⟩
    · rw [ev] at z
      exact bP_z.mp z ⟨(key.mp w).1, fun i hi => (key.mp w).2 i (by omega)⟩
    · have p1 : m 154 a = x ∧ ∀ i : Nat, i < j → m 155 (4 * (a : Int) + i) = m 168 i := Classical.byContradiction fun w => z (by rw [ev]; exact bP_0 w)
      refine ⟨⟨by omega, by omega⟩, ⟨by omega, by omega⟩, hR2 p1.1 j (by omega), hR j (by omega), ?_⟩
      rintro v1 e1
      refine ih (j + 1) v1 (by omega) ?_
      by_cases y : m 155 (4 * (a : Int) + (j : Int)) = m 168 (j : Int)
      · rw [e1, if_neg (fun w => w y)]
        refine (bP_1 ⟨p1.1, fun i hi => ?_⟩).symm
        by_cases w : i = j
        · rw [w]; exact y
        · exact p1.2 i (by omega)
      · rw [e1, if_pos y]
        exact (bP_0 (fun w => y (w.2 j (by omega)))).symm
/-- an atom is looked for -/
theorem c_find (H : RS μ) (hI : HdI W m F) (hx : iR x) (hc : c ≤ 4) (hW : W x = c) (hR : ∀ k : Nat, k < c → iR (m 168 k)) (h9 : m 125 9 ≤ 1100)
    (hf : ∀ a : Nat, a < F → isA m a x (sl (m 168) 0 c) → Q (.inl (some (.int (zI (a : Int))))) (sA μ m l))
    (hn : (∀ a : Nat, a < F → ¬ isA m a x (sl (m 168) 0 c)) → ∀ t0 mm : Nat, t0 < 4096 → mm < 4096 → asP x (sl (m 168) 0 c) = (t0 : Int) → m 157 (((t0 + mm) % 4096 : Nat) : Int) = 0 → (∀ m', m' < mm → ¬ m 157 (((t0 + m') % 4096 : Nat) : Int) = 0) → Q (.inl (some (.int (zI (-1 - (((t0 + mm) % 4096 : Nat) : Int)))))) (sA μ m l)) :
    Wp (d + 1) 218 (0, [some (.ref 125), some (.int (zI x)), some (.int (zI (c : Int))), none, none, none, none], [], sA μ m l) Q := by
  obtain ⟨e48, hF, h4, h5, h7, h6⟩ := id hI
  obtain ⟨t0, ht0, et⟩ := zAnd_r12 (zXor (asN x (sl (m 168) 0 c)) (zUsh (asN x (sl (m 168) 0 c)) 13))
  have ep : asP x (sl (m 168) 0 c) = (t0 : Int) := et
  obtain ⟨mm, hm, hz, hnz⟩ := HT_first h6 (by omega) t0 ht0
  have hz' : m 157 (((t0 + mm) % 4096 : Nat) : Int) = 0 := by
    have := h7 ((t0 + mm) % 4096) (Nat.mod_lt _ (by decide))
    have z : (m 157 (((t0 + mm) % 4096 : Nat) : Int)).toNat = 0 := hz
    omega
  have hnz' : ∀ m', m' < mm → ¬ m 157 (((t0 + m') % 4096 : Nat) : Int) = 0 := by
    intro m' hm' z
    exact hnz m' hm' (by show (m 157 (((t0 + m') % 4096 : Nat) : Int)).toNat = 0; rw [z]; rfl)
  have loop : ∀ (r i : Nat) (o4 o5 o6 : Option Value), i + r = mm → (∀ m', m' < i → ∀ k : Nat, m 157 (((t0 + m') % 4096 : Nat) : Int) = (k : Int) + 1 → ¬ isA m k x (sl (m 168) 0 c)) → Wp (d + 1) 218 (7, [some (.ref 125), some (.int (zI x)), some (.int (zI (c : Int))), some (.int (zI (((t0 + i) % 4096 : Nat) : Int))), o4, o5, o6], [], sA μ m l) Q := by
    intro r
    induction r with
    | zero =>
      intro i o4 o5 o6 hi hno
      have ei : i = mm := by omega
      rw [ei] at hno ⊢
      have hl := Nat.mod_lt (t0 + mm) (show 0 < 4096 by decide)
      refine R218_7 H ⟨⟨by omega, by omega⟩, by rw [hz']; exact ⟨by decide, by decide⟩, fun _ => hn (fun k hk z => ?_) t0 mm ht0 hm ep hz' hnz', fun z => absurd (by rw [hz']; decide) z⟩
      have hpl : (fun a : Nat => (asP (m 154 a) (sl (m 155) (4 * (a : Int)) (W (m 154 a)))).toNat) k = t0 := by
        show (asP (m 154 k) (sl (m 155) (4 * (k : Int)) (W (m 154 k)))).toNat = t0
        have z2 := z.2
        rw [sl_len] at z2
        rw [z.1, hW, z2, ep]
        rfl
      obtain ⟨m', g1, g2⟩ := HT_before h6 hk hpl hz
      refine hno m' g1 k ?_ z
      have g2' : (m 157 (((t0 + m') % 4096 : Nat) : Int)).toNat = k + 1 := g2
      omega
    | succ r ih =>
      intro i o4 o5 o6 hi hno
      have hl := Nat.mod_lt (t0 + i) (show 0 < 4096 by decide)
      have hv := h7 ((t0 + i) % 4096) hl
      have hv0 := hnz' i (by omega)
      obtain ⟨k, ek⟩ : ∃ k : Nat, m 157 (((t0 + i) % 4096 : Nat) : Int) = (k : Int) + 1 := ⟨(m 157 (((t0 + i) % 4096 : Nat) : Int) - 1).toNat, by omega⟩
      have hk : k < F := by omega
      obtain ⟨a1, a2, a3, a4⟩ := h4 k hk
      refine R218_7 H ⟨⟨by omega, by omega⟩, ⟨by omega, by omega⟩, fun z => by omega, fun _ => ?_⟩
      rw [ek, show (k : Int) + 1 - 1 = (k : Int) by omega]
      refine ⟨⟨by omega, by omega⟩, ⟨by omega, by omega⟩, hx, ?_⟩
      rintro v1 e1
      refine fd_47 (a := k) H (by omega) hc hR (fun e j hj => ?_) (fun z => hf k hk z) (fun z o4 o5 o6 => ?_) c 0 v1 (by omega) ?_
      · have := a3 j (by rw [e, hW]; exact hj)
        exact ⟨by omega, by omega⟩
      · rw [zAnd_n12 _ hl]
        have en : (((t0 + i) % 4096 + 1) % 4096 : Nat) = (t0 + (i + 1)) % 4096 := by omega
        rw [en]
        refine ih (i + 1) _ _ _ (by omega) (fun m' hm' k' ek' => ?_)
        by_cases w : m' = i
        · rw [w] at ek'
          have : k' = k := by omega
          rw [this]
          exact z
        · exact hno m' (by omega) k' ek'
      · rw [e1]
        by_cases y : m 154 (k : Int) = x
        · rw [if_neg (fun w => w y)]
          exact (bP_1 ⟨y, fun i hi => absurd hi (Nat.not_lt_zero i)⟩).symm
        · rw [if_pos y]
          exact (bP_0 (fun w => y w.1)).symm
  refine R218_0 H ⟨_, _, c_atomSpot (x := x) (c := c) H hc, fun y μ' hy => ?_, fun _ _ z => z.elim⟩
  obtain ⟨rfl, rfl⟩ := hy
  refine R218_6 H ?_
  rw [ep]
  have e0 : (t0 : Int) = (((t0 + 0) % 4096 : Nat) : Int) := by rw [Nat.add_zero, Nat.mod_eq_of_lt ht0]
  rw [e0]
  exact loop mm 0 none none none (by omega) (fun m' hm' => absurd hm' (Nat.not_lt_zero m'))
end RA1
