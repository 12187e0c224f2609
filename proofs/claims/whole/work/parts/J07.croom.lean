/-! ===== the class's model: the room of a rule; bits; places of parts ===== -/
def prL (f : Nat → Nat) : Nat → Nat
  | 0 => 1
  | n + 1 => prL f n * f n
theorem prL_cg {f g : Nat → Nat} : ∀ {n : Nat}, (∀ j, j < n → f j = g j) → prL f n = prL g n := by
  intro n
  induction n with
  | zero => intro _; rfl
  | succ n ih =>
    intro h
    show prL f n * f n = prL g n * g n
    rw [ih (fun j hj => h j (by omega)), h n (by omega)]
theorem prL_0 {f : Nat → Nat} : ∀ {n j : Nat}, j < n → f j = 0 → prL f n = 0 := by
  intro n
  induction n with
  | zero => intro j hj; exact absurd hj (Nat.not_lt_zero j)
  | succ n ih =>
    intro j hj h
    show prL f n * f n = 0
    by_cases e : j = n
    · rw [← e, h, Nat.mul_zero]
    · rw [ih (by omega) h, Nat.zero_mul]
theorem prL_ge {f : Nat → Nat} : ∀ {n j : Nat}, j ≤ n → (∀ i, i < n → 1 ≤ f i) → prL f j ≤ prL f n := by
  intro n
  induction n with
  | zero => intro j hj _; rw [show j = 0 by omega]; exact Nat.le_refl _
  | succ n ih =>
    intro j hj h
    by_cases e : j = n + 1
    · rw [e]; exact Nat.le_refl _
    · have h1 := ih (j := j) (by omega) (fun i hi => h i (by omega))
      have h2 : prL f n * 1 ≤ prL f n * f n := Nat.mul_le_mul_left _ (h n (by omega))
      rw [Nat.mul_one] at h2
      exact Nat.le_trans h1 h2
theorem prL_s (f : Nat → Nat) : ∀ n, prL f (n + 1) = f 0 * prL (fun j => f (j + 1)) n := by
  intro n
  induction n with
  | zero =>
    show 1 * f 0 = f 0 * 1
    rw [Nat.one_mul, Nat.mul_one]
  | succ n ih =>
    show prL f (n + 1) * f (n + 1) = f 0 * (prL (fun j => f (j + 1)) n * f (n + 1))
    rw [ih, Nat.mul_assoc]
theorem rmL_pr (S : List Atm) : ∀ L : List (Nat × Atm), rmL S L = prL (fun j => cntA S (L.getD j cnD).2.1) L.length := by
  intro L
  induction L with
  | nil => rfl
  | cons c L ih =>
    rw [List.length_cons, prL_s]
    show cntA S c.2.1 * rmL S L = _
    rw [ih]
    rfl
section CRM
variable {d : Nat} {μ : am_Mem} {m l : PM} {Q : Option Value ⊕ Nat → am_Mem → Prop} {q N P S s : Nat}
theorem k_roomOf {r p : Nat} {cnt : Nat → Nat} (H : CS μ) (TS_ : TS μ q N P S) (hq : TQ q N P S) (hs : s = 22 ∨ s = 42) (h2 : am_F μ 70 2 = s) (hr : r < 60) (hp : p ≤ 8) (e13 : m (s + 13) (r : Int) = (p : Int)) (hc : ∀ j : Nat, j < p → (0 ≤ m (s + 12) (8 * (r : Int) + (j : Int)) ∧ m (s + 12) (8 * (r : Int) + (j : Int)) < 1024) ∧ (0 ≤ m (s + 6) (m (s + 12) (8 * (r : Int) + (j : Int))) ∧ m (s + 6) (m (s + 12) (8 * (r : Int) + (j : Int))) < 1024) ∧ m 78 (m (s + 6) (m (s + 12) (8 * (r : Int) + (j : Int)))) = (cnt j : Int) ∧ cnt j ≤ 1000)
    (hok : prL cnt p ≤ 300000 → Q (.inl (some (.long (zL (prL cnt p : Int))))) (sA μ m l)) (hX : 300000 < prL cnt p → Q (.inr 3) (sA (am_nX μ) m l)) :
    Wp (d + 1) 38 (0, [some (.ref 70), some (.int (zI (r : Int))), none, none, none], [], sA μ m l) Q := by
  have mul : ∀ (f j : Nat), j + f = p → (∀ i, i < p → 1 ≤ cnt i) → prL cnt j ≤ 300000 → Wp (d + 1) 38 (59, [some (.ref 70), some (.int (zI (r : Int))), some (.long (zL (prL cnt j : Int))), none, some (.int (zI (j : Int)))], [], sA μ m l) Q := by
    intro f
    induction f with
    | zero =>
      intro j hj h1 hle
      have ej : j = p := by omega
      refine K38_59 H TS_ hq hs h2 ⟨⟨by omega, by omega⟩, ⟨by omega, by omega⟩, by rw [e13]; exact ⟨by omega, by omega⟩, fun _ => ?_, fun z => by rw [e13] at z; omega⟩
      rw [ej] at hle ⊢
      exact hok hle
    | succ f ih =>
      intro j hj h1 hle
      obtain ⟨c1, c2, c3, c4⟩ := hc j (by omega)
      have emul : (prL cnt j : Int) * (cnt j : Int) = (prL cnt (j + 1) : Int) := (Int.natCast_mul _ _).symm
      have hb : prL cnt (j + 1) ≤ 300000 * 1000 := Nat.mul_le_mul hle c4
      refine K38_59 H TS_ hq hs h2 ⟨⟨by omega, by omega⟩, ⟨by omega, by omega⟩, by rw [e13]; exact ⟨by omega, by omega⟩, fun z => by rw [e13] at z; omega, fun _ => ⟨⟨by omega, by omega⟩, fun v1 ev1 => ?_⟩⟩
      rw [ev1, c3, emul]
      refine ⟨c1, c2, ⟨by omega, by omega⟩, ⟨by omega, by omega⟩, fun z v2 ev2 => ?_, fun z v3 _ => hX ?_⟩
      · rw [ev2]
        have go := ih (j + 1) (by omega) h1 (by omega)
        rw [show ((j + 1 : Nat) : Int) = (j : Int) + 1 by omega] at go
        exact go
      · have := prL_ge (f := cnt) (n := p) (j := j + 1) (by omega) h1
        omega
  have look : ∀ (f j : Nat), j + f = p → (∀ i, i < j → 1 ≤ cnt i) → Wp (d + 1) 38 (5, [some (.ref 70), some (.int (zI (r : Int))), some (.long (zL 1)), none, some (.int (zI (j : Int)))], [], sA μ m l) Q := by
    intro f
    induction f with
    | zero =>
      intro j hj h1
      refine K38_5 H TS_ hq hs h2 ⟨⟨by omega, by omega⟩, ⟨by omega, by omega⟩, by rw [e13]; exact ⟨by omega, by omega⟩, fun _ => ?_, fun z => by rw [e13] at z; omega⟩
      exact mul p 0 (by omega) (fun i hi => h1 i (by omega)) (by show 1 ≤ 300000; decide)
    | succ f ih =>
      intro j hj h1
      obtain ⟨c1, c2, c3, c4⟩ := hc j (by omega)
      refine K38_5 H TS_ hq hs h2 ⟨⟨by omega, by omega⟩, ⟨by omega, by omega⟩, by rw [e13]; exact ⟨by omega, by omega⟩, fun z => by rw [e13] at z; omega, fun _ => ⟨⟨by omega, by omega⟩, fun v1 ev1 => ?_⟩⟩
      rw [ev1, c3]
      refine ⟨c1, c2, ⟨by omega, by omega⟩, fun z => ?_, fun z => ?_⟩
      · have go := ih (j + 1) (by omega) (fun i hi => by
          by_cases e : i = j
          · rw [e]; omega
          · exact h1 i (by omega))
        rw [show ((j + 1 : Nat) : Int) = (j : Int) + 1 by omega] at go
        exact go
      · have z' : cnt j = 0 := by
          have := Classical.byContradiction z
          omega
        have e0 := prL_0 (f := cnt) (n := p) (j := j) (by omega) z'
        have := hok (by rw [e0]; decide)
        rw [e0] at this
        exact this
  exact K38_0 H TS_ hq hs h2 (look p 0 (by omega) (fun i hi => absurd hi (Nat.not_lt_zero i)))
end CRM
/-! bits of the variables that are bound -/
theorem bt_get : ∀ x : Fin 256, ∀ v : Fin 8, zAnd (zShr ((x.val : Nat) : Int) ((v.val : Nat) : Int)) 1 = if x.val.testBit v.val then 1 else 0 := by decide +kernel
theorem bt_set : ∀ x : Fin 256, ∀ v : Fin 8, zOr ((x.val : Nat) : Int) (zShl 1 ((v.val : Nat) : Int)) = ((x.val ||| 2 ^ v.val : Nat) : Int) := by decide +kernel
theorem bt_lt : ∀ x : Fin 256, ∀ v : Fin 8, x.val ||| 2 ^ v.val < 256 := by decide +kernel
theorem bt_tb : ∀ x : Fin 256, ∀ v w : Fin 8, (x.val ||| 2 ^ v.val).testBit w.val = (x.val.testBit w.val || decide (v = w)) := by decide +kernel
/-- where the parts stand -/
theorem PcR_pos {R : Int → List Cd → Prop} {r : Int → Int} {w : Int} : ∀ (ps : List (List Cd)) (j : Nat) (k : Int), PcR R r w j k ps → ∀ i : Nat, i < ps.length → r (w + ((j + i : Nat) : Int)) = k + ((ps.take (i + 1)).flatten.length : Int) - 1 ∧ R (k + ((ps.take (i + 1)).flatten.length : Int) - 1) (ps.getD i []) := by
  intro ps
  induction ps with
  | nil => intro j k _ i hi; exact absurd hi (Nat.not_lt_zero i)
  | cons p ps ih =>
    intro j k h i hi
    obtain ⟨a1, a2, a3⟩ := h
    cases i with
    | zero =>
      have e : ((p :: ps).take (0 + 1)).flatten = p := by simp
      rw [e]
      exact ⟨a1, a2⟩
    | succ i =>
      have z := ih (j + 1) _ a3 i (by simpa using hi)
      have e : ((((p :: ps).take (i + 1 + 1)).flatten.length : Nat) : Int) = p.length + ((ps.take (i + 1)).flatten.length : Int) := by simp
      rw [e, show j + (i + 1) = j + 1 + i by omega, show k + ((p.length : Int) + ((ps.take (i + 1)).flatten.length : Int)) - 1 = k + (p.length : Int) + ((ps.take (i + 1)).flatten.length : Int) - 1 by omega]
      exact z
