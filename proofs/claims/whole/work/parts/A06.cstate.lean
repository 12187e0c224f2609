/-! ===== the class's parser: its state at a token; a variable ===== -/
/-- numbers of names: each name has one, and each number one name -/
def XP (X : Int → List Int → Prop) : Prop := (∀ x w, X x w → 0 ≤ x ∧ x < 2048) ∧ (∀ x w w', X x w → X x w' → w = w') ∧ (∀ x y w, X x w → X y w → x = y) ∧ X 8 (wdL.getD 0 []) ∧ X 9 (wdL.getD 1 [])
/-- the tokens in their rows -/
def TkE (t : Int → Int) (n : Int) (X : Int → List Int → Prop) (J : Nat) (m : PM) : Prop := J ≤ 2000 ∧ (∀ j, j < J → ¬ (tK t n j = 0 ∨ tK t n j = 6)) ∧ (tK t n J = 0 ∨ tK t n J = 6) ∧ ∀ j : Nat, j ≤ J → m 19 j = ckK (tK t n j) ∧ m 20 j = tkP t n j ∧ (isN (tK t n j) → X (m 21 j) (tW t n j))
/-- the parser's state at token i -/
def CI (t : Int → Int) (n : Int) (X : Int → List Int → Prop) (J s : Nat) (m : PM) (i : Nat) (vs : List (List Int)) : Prop := TkE t n X J m ∧ m 62 2 = (i : Int) ∧ i ≤ J ∧ (0 ≤ m s 6 ∧ m s 6 ≤ (nt t n i : Int)) ∧ CV m ∧ m 62 4 = (vs.length : Int) ∧ ∀ j : Nat, j < vs.length → X (m 63 j) (vs.getD j [])
/-- what a term at depth D - 1 may write -/
abbrev WC (s : Nat) (N D : Int) (c : Nat) (j : Int) : Prop := (c = 62 ∧ (j = 2 ∨ j = 4)) ∨ c = 63 ∨ (c = 64 ∧ 4 * D ≤ j) ∨ (c = s ∧ j = 6) ∨ ((c = s + 6 ∨ c = s + 7 ∨ c = s + 9 ∨ c = s + 10) ∧ N ≤ j) ∨ (c = s + 8 ∧ 4 * N ≤ j)
theorem rix_nixC {r : Int → Int} {x : Int} {nm : Nat → List Int} {w : List Int} : ∀ f k : Nat, (∀ j : Nat, k ≤ j → j < k + f → (r j = x ↔ nm j = w)) → rix r x f k = nix nm w f k := by
  intro f
  induction f with
  | zero => intro k _; rfl
  | succ f ih =>
    intro k h
    have hk := h k (by omega) (by omega)
    have := ih (k + 1) (fun j h1 h2 => h j (by omega) (by omega))
    unfold rix nix
    by_cases c : nm k = w
    · rw [if_pos c, if_pos (hk.mpr c)]
    · rw [if_neg c, if_neg (fun z => c (hk.mp z)), this]
theorem TkE_cg {t : Int → Int} {n : Int} {X : Int → List Int → Prop} {J : Nat} {m m' : PM} (h19 : ∀ j, m' 19 j = m 19 j) (h20 : ∀ j, m' 20 j = m 20 j) (h21 : ∀ j, m' 21 j = m 21 j) (h : TkE t n X J m) : TkE t n X J m' :=
  ⟨h.1, h.2.1, h.2.2.1, fun j hj => ⟨by rw [h19]; exact (h.2.2.2 j hj).1, by rw [h20]; exact (h.2.2.2 j hj).2.1, by rw [h21]; exact (h.2.2.2 j hj).2.2⟩⟩
theorem cvN_vrx {t : Int → Int} {n : Int} {X : Int → List Int → Prop} {J s : Nat} {m : PM} {i : Nat} {vs : List (List Int)} {x : Int} {w : List Int} (hX : XP X) (h : CI t n X J s m i vs) (hx : X x w) : cvN m x = vrx vs w := by
  obtain ⟨_, _, _, _, _, e4, hv⟩ := h
  unfold cvN vrx
  rw [e4]
  refine rix_nixC _ _ (fun j _ hj => ⟨fun z => ?_, fun z => ?_⟩)
  · have q := hv j (by omega)
    rw [z] at q
    exact hX.2.1 _ _ _ q hx
  · have q := hv j (by omega)
    rw [z] at q
    exact hX.2.2.1 _ _ _ q hx
theorem CI_lt {t : Int → Int} {n : Int} {X : Int → List Int → Prop} {J s : Nat} {m : PM} {i : Nat} {vs : List (List Int)} (h : CI t n X J s m i vs) (hk : ¬ (tK t n i = 0 ∨ tK t n i = 6)) : i < J := by
  by_cases c : i = J
  · exact absurd h.1.2.2.1 (by rw [← c]; exact hk)
  · have := h.2.2.1
    omega
