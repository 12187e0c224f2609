/-! ===== the checks of a sheet, told of its rules alone ===== -/
noncomputable def cif {α : Type} (p : Prop) (a b : α) : α := @ite α p (Classical.propDecidable p) a b
theorem cif_p {α : Type} {p : Prop} {a b : α} (h : p) : cif p a b = a := by
  unfold cif
  exact if_pos h
theorem cif_n {α : Type} {p : Prop} {a b : α} (h : ¬ p) : cif p a b = b := by
  unfold cif
  exact if_neg h
/-- 1 if it is so, else 0 -/
noncomputable def bP (p : Prop) : Int := cif p 1 0
theorem bP_1 {p : Prop} (h : p) : bP p = 1 := cif_p h
theorem bP_0 {p : Prop} (h : ¬ p) : bP p = 0 := cif_n h
theorem bP_z {p : Prop} : bP p = 0 ↔ ¬ p := by
  by_cases h : p
  · rw [bP_1 h]
    exact ⟨fun z => absurd z (by decide), fun z => absurd h z⟩
  · rw [bP_0 h]
    exact ⟨fun _ => h, fun _ => rfl⟩
theorem bP_e {p : Prop} : bP p = 1 ↔ p := by
  by_cases h : p
  · rw [bP_1 h]
    exact ⟨fun _ => h, fun _ => rfl⟩
  · rw [bP_0 h]
    exact ⟨fun z => absurd z (by decide), fun z => absurd z h⟩
theorem bP_b (p : Prop) : bP p = 0 ∨ bP p = 1 := by
  by_cases h : p
  · exact Or.inr (bP_1 h)
  · exact Or.inl (bP_0 h)
theorem bP_R (p : Prop) : iR (bP p) := by
  have := bP_b p
  unfold iR
  omega
theorem bP_cg {p q : Prop} (h : p ↔ q) : bP p = bP q := by rw [propext h]
/-- the least number from k on, below k + f, of which it is so -/
noncomputable def lst (P : Nat → Prop) : Nat → Nat → Nat
  | k, 0 => k
  | k, f + 1 => cif (P k) k (lst P (k + 1) f)
theorem lst_le (P : Nat → Prop) : ∀ f k : Nat, lst P k f ≤ k + f ∧ k ≤ lst P k f := by
  intro f
  induction f with
  | zero => intro k; exact ⟨Nat.le_refl _, Nat.le_refl _⟩
  | succ f ih =>
    intro k
    unfold lst
    by_cases h : P k
    · rw [cif_p h]; omega
    · rw [cif_n h]
      have := ih (k + 1)
      omega
theorem lst_is {P : Nat → Prop} : ∀ f k : Nat, lst P k f < k + f → P (lst P k f) := by
  intro f
  induction f with
  | zero => intro k h; exact absurd h (Nat.lt_irrefl _)
  | succ f ih =>
    intro k h
    unfold lst at h ⊢
    by_cases q : P k
    · rw [cif_p q]; exact q
    · rw [cif_n q] at h ⊢
      exact ih (k + 1) (by omega)
theorem lst_no {P : Nat → Prop} : ∀ f k j : Nat, k ≤ j → j < lst P k f → ¬ P j := by
  intro f
  induction f with
  | zero => intro k j h1 h2; exact absurd h2 (by unfold lst; omega)
  | succ f ih =>
    intro k j h1 h2
    unfold lst at h2
    by_cases q : P k
    · rw [cif_p q] at h2; omega
    · rw [cif_n q] at h2
      by_cases c : j = k
      · rw [c]; exact q
      · exact ih (k + 1) j (by omega) h2
/-- the least number is known by what it is -/
theorem lst_eq {P : Nat → Prop} {n x : Nat} (hx : x ≤ n) (h1 : ∀ j, j < x → ¬ P j) (h2 : x < n → P x) : lst P 0 n = x := by
  have a := lst_le P n 0
  by_cases c : lst P 0 n < x
  · exact absurd (lst_is n 0 (by omega)) (h1 _ c)
  · by_cases e : x < lst P 0 n
    · exact absurd (h2 (by omega)) (lst_no n 0 x (Nat.zero_le _) e)
    · omega
/-- how many terms the words' atoms have; -1 for others -/
def ownC (w : List Int) : Int := if w = wdL.getD 2 [] ∨ w = wdL.getD 3 [] ∨ w = wdL.getD 4 [] ∨ w = wdL.getD 7 [] then 1 else if w = wdL.getD 5 [] ∨ w = wdL.getD 6 [] ∨ w = wdL.getD 8 [] then 2 else if w = wdL.getD 9 [] then 0 else -1
/-- the atoms of a rule -/
def aIn (ru : Rul) (a : Atm) : Prop := a = ru.1 ∨ ∃ c, c ∈ ru.2 ∧ c.1 < 3 ∧ c.2 = a
/-- the atoms of the rules before r -/
def upA (rs : List Rul) (r : Nat) (a : Atm) : Prop := ∃ q, q < r ∧ aIn (rs.getD q ruD) a
/-- each relation has one number of terms, the words' their own -/
def Cns (S : Atm → Prop) : Prop := ∀ a, S a → (ownC a.1 < 0 ∨ ownC a.1 = (a.2.length : Int)) ∧ ∀ b, S b → b.1 = a.1 → b.2.length = a.2.length
def Bad2 (rs : List Rul) (r : Nat) : Prop := ¬ Cns (upA rs (r + 1))
def hasV (p : List Cd) : Prop := ∃ c, c ∈ p ∧ 5 ≤ c.1
def hasW (p : List Cd) (v : Nat) : Prop := ∃ c, c ∈ p ∧ c.1 = 5 + v
def atV (a : Atm) : Prop := ∃ p, p ∈ a.2 ∧ hasV p
def atW (a : Atm) (v : Nat) : Prop := ∃ p, p ∈ a.2 ∧ hasW p v
def Bad3 (rs : List Rul) (r : Nat) : Prop := (rs.getD r ruD).1.1 = wdL.getD 4 [] ∨ (rs.getD r ruD).1.1 = wdL.getD 5 [] ∨ ((rs.getD r ruD).1.1 = wdL.getD 2 [] ∧ (¬ (rs.getD r ruD).2 = [] ∨ atV (rs.getD r ruD).1)) ∨ ∃ c, c ∈ (rs.getD r ruD).2 ∧ (c.2.1 = wdL.getD 3 [] ∨ c.2.1 = wdL.getD 7 [])
/-- the head's relation, a condition's -/
def Edg (rs : List Rul) (x y : List Int) : Prop := ∃ ru, ru ∈ rs ∧ ru.1.1 = x ∧ ∃ c, c ∈ ru.2 ∧ c.1 < 3 ∧ c.2.1 = y
def Dep (rs : List Rul) (x y : List Int) : Prop := Relation.TransGen (Edg rs) x y
def Bad5 (rs : List Rul) (r : Nat) : Prop := ∃ v, v < 8 ∧ (atW (rs.getD r ruD).1 v ∨ ∃ c, c ∈ (rs.getD r ruD).2 ∧ 1 < c.1 ∧ atW c.2 v) ∧ ¬ ∃ c, c ∈ (rs.getD r ruD).2 ∧ c.1 = 1 ∧ atW c.2 v
def Trn (rs : List Rul) (ru : Rul) (x : List Int) : Prop := x = ru.1.1 ∨ Dep rs x ru.1.1
def Bad6 (rs : List Rul) (r : Nat) : Prop := ∃ c, c ∈ (rs.getD r ruD).2 ∧ c.1 = 2 ∧ Trn rs (rs.getD r ruD) c.2.1
/-- a term of a condition that turns back is held elsewhere in the rule -/
def Hld (rs : List Rul) (ru : Rul) (p : List Cd) : Prop := p ∈ ru.1.2 ∨ ∃ c, c ∈ ru.2 ∧ c.1 = 1 ∧ p ∈ c.2.2 ∧ ¬ Trn rs ru c.2.1
def Bad7 (rs : List Rul) (r : Nat) : Prop := ∃ c, c ∈ (rs.getD r ruD).2 ∧ c.1 = 1 ∧ Trn rs (rs.getD r ruD) c.2.1 ∧ ∃ p, p ∈ c.2.2 ∧ hasV p ∧ ¬ Hld rs (rs.getD r ruD) p
/-- which of the four is told -/
noncomputable def ch4 (rs : List Rul) : Int := cif (Dep rs (wdL.getD 3 []) (wdL.getD 4 []) ∨ Dep rs (wdL.getD 3 []) (wdL.getD 5 [])) 0 (cif (Dep rs (wdL.getD 6 []) (wdL.getD 5 [])) 1 (cif (Dep rs (wdL.getD 8 []) (wdL.getD 5 [])) 2 (cif (Dep rs (wdL.getD 9 []) (wdL.getD 5 [])) 3 (-1))))
/-- the fault of a sheet and its place -/
noncomputable def chF (rs : List Rul) : Int × Int :=
  if lst (Bad2 rs) 0 rs.length < rs.length then (2, (lst (Bad2 rs) 0 rs.length : Int)) else
  if lst (Bad3 rs) 0 rs.length < rs.length then (3, (lst (Bad3 rs) 0 rs.length : Int)) else
  if ¬ ch4 rs = -1 then (4, ch4 rs) else
  if lst (Bad5 rs) 0 rs.length < rs.length then (5, (lst (Bad5 rs) 0 rs.length : Int)) else
  if lst (Bad6 rs) 0 rs.length < rs.length then (6, (lst (Bad6 rs) 0 rs.length : Int)) else
  if lst (Bad7 rs) 0 rs.length < rs.length then (7, (lst (Bad7 rs) 0 rs.length : Int)) else (0, -1)
/-! numbers of terms: a table of relations -/
/-- the row holds each relation's number of terms as far as the atoms tell -/
def T2 (N : Int → List Int → Prop) (row : Int → Int) (S : Atm → Prop) : Prop := ∀ x w, N x w → (0 ≤ ownC w → row x = ownC w) ∧ (∀ a, S a → a.1 = w → row x = (a.2.length : Int)) ∧ (ownC w < 0 → (∀ a, S a → ¬ a.1 = w) → row x = -1)
theorem Cns_mono {S S' : Atm → Prop} (h : ∀ a, S a → S' a) (hc : Cns S') : Cns S := fun a ha => ⟨(hc a (h a ha)).1, fun b hb => (hc a (h a ha)).2 b (h b hb)⟩
theorem T2_step {N : Int → List Int → Prop} {row row' : Int → Int} {S : Atm → Prop} {a : Atm} {x : Int} (h1 : ∀ x w w', N x w → N x w' → w = w') (h2 : ∀ x y w, N x w → N y w → x = y) (hx : N x a.1) (T : T2 N row S) (C : Cns S) (hr : ∀ y, ¬ y = x → row' y = row y) (e : row' x = if 0 ≤ row x then row x else (a.2.length : Int)) :
  (row' x = (a.2.length : Int) → Cns (fun b => S b ∨ b = a) ∧ T2 N row' (fun b => S b ∨ b = a)) ∧ (¬ row' x = (a.2.length : Int) → ¬ Cns (fun b => S b ∨ b = a)) := by
  obtain ⟨t1, t2, t3⟩ := T x a.1 hx
  constructor
  · intro he
    have hown : ownC a.1 < 0 ∨ ownC a.1 = (a.2.length : Int) := by
      by_cases q : ownC a.1 < 0
      · exact Or.inl q
      · have z := t1 (by omega)
        rw [if_pos (by omega)] at e
        exact Or.inr (by omega)
    have hsame : ∀ b, S b → b.1 = a.1 → b.2.length = a.2.length := by
      intro b hb hba
      have z := t2 b hb hba
      rw [if_pos (by omega)] at e
      omega
    constructor
    · intro c hc
      rcases hc with hc | rfl
      · refine ⟨(C c hc).1, fun b hb hbc => ?_⟩
        rcases hb with hb | rfl
        · exact (C c hc).2 b hb hbc
        · exact (hsame c hc hbc.symm).symm
      · refine ⟨hown, fun b hb hbc => ?_⟩
        rcases hb with hb | rfl
        · exact hsame b hb hbc
        · rfl
    · intro y w hy
      by_cases q : y = x
      · rw [q] at hy ⊢
        have ew := h1 _ _ _ hy hx
        refine ⟨fun z => ?_, fun b hb hbw => ?_, fun _ z => absurd ew.symm (z a (Or.inr rfl))⟩
        · rw [ew] at z ⊢
          omega
        · rcases hb with hb | rfl
          · rw [he, hsame b hb (hbw.trans ew)]
          · exact he
      · rw [hr y q]
        obtain ⟨u1, u2, u3⟩ := T y w hy
        refine ⟨u1, fun b hb hbw => ?_, fun z1 z2 => u3 z1 fun b hb => z2 b (Or.inl hb)⟩
        rcases hb with hb | rfl
        · exact u2 b hb hbw
        · rw [← hbw] at hy
          exact absurd (h2 _ _ _ hy hx) q
  · intro he hC
    obtain ⟨c1, c2⟩ := hC a (Or.inr rfl)
    apply he
    by_cases q : 0 ≤ ownC a.1
    · have z := t1 q
      rw [e, if_pos (by omega)]
      omega
    · by_cases w : ∃ b, S b ∧ b.1 = a.1
      · obtain ⟨b, hb, hba⟩ := w
        have z := t2 b hb hba
        have z2 := c2 b (Or.inl hb) hba
        rw [e, if_pos (by omega)]
        omega
      · have z := t3 (by omega) fun b hb hba => w ⟨b, hb, hba⟩
        rw [e, if_neg (by omega)]
