/-! ===== the class's addNode ===== -/
theorem zI_bv {a : Nat} (h : a < 2147483648) : (zI (a : Int)).toBitVec.toNat = a := by
  show (BitVec.ofInt 32 (a : Int)).toNat = a
  rw [BitVec.toNat_ofInt]
  omega
theorem zOr_n {a b : Nat} (ha : a < 256) (hb : b < 256) : zOr (a : Int) (b : Int) = ((a ||| b : Nat) : Int) := by
  show ((zI (a : Int)).toBitVec ||| (zI (b : Int)).toBitVec).toInt = _
  have e : ((zI (a : Int)).toBitVec ||| (zI (b : Int)).toBitVec).toNat = a ||| b := by
    rw [BitVec.toNat_or, zI_bv (by omega), zI_bv (by omega)]
  have hl : a ||| b < 2 ^ 8 := Nat.or_lt_two_pow ha hb
  rw [BitVec.toInt_eq_toNat_of_lt (by rw [e]; omega), e]
theorem zShl_1 {i : Nat} (h : i < 8) : zShl 1 (i : Int) = ((2 ^ i : Nat) : Int) := by
  match i, h with
  | 0, _ => decide
  | 1, _ => decide
  | 2, _ => decide
  | 3, _ => decide
  | 4, _ => decide
  | 5, _ => decide
  | 6, _ => decide
  | 7, _ => decide
def orV (V : Nat → Nat) (v0 : Nat) : Nat → Nat
  | 0 => v0
  | j + 1 => orV V v0 j ||| V j
theorem orV_lt {V : Nat → Nat} {v0 : Nat} (h0 : v0 < 256) : ∀ j : Nat, (∀ i, i < j → V i < 256) → orV V v0 j < 256 := by
  intro j
  induction j with
  | zero => intro _; exact h0
  | succ j ih =>
    intro h
    exact Nat.or_lt_two_pow (n := 8) (ih fun i hi => h i (by omega)) (h j (by omega))
/-- what addNode writes -/
abbrev SN (s : Nat) (N : Int) (c : Nat) (j : Int) : Prop := (c = s ∧ j = 6) ∨ ((c = s + 6 ∨ c = s + 7 ∨ c = s + 9 ∨ c = s + 10) ∧ j = N) ∨ (c = s + 8 ∧ 4 * N ≤ j)
section CP5
variable {d : Nat} {Q : Option Value ⊕ Nat → am_Mem → Prop} {μ : am_Mem} {m l : PM} {s : Nat}
theorem add_70 (H : CS μ) (hs : s = 22 ∨ s = 42) {N x1 x4 L : Int} {x2 v0 : Nat} {V : Nat → Nat} (hN : 0 ≤ N ∧ N < 1024) (h2 : x2 ≤ 4) (h4 : 0 ≤ x4 ∧ x4 + 4 ≤ 44) (hk : ∀ i : Nat, i < x2 → 0 ≤ m 64 (x4 + i) ∧ m 64 (x4 + i) < N) (h0 : v0 < 256) (hv : ∀ i : Nat, i < x2 → V i < 256 ∧ m (s + 10) (m 64 (x4 + i)) = (V i : Int))
  (hq : ∀ m' : PM, m' (s + 6) N = x1 → m' (s + 7) N = (x2 : Int) → m' (s + 9) N = L → m' (s + 10) N = (orV V v0 x2 : Nat) → (∀ i : Nat, i < x2 → m' (s + 8) (4 * N + i) = m 64 (x4 + i)) → m' s 6 = N + 1 → (∀ c j, ¬ SN s N c j → m' c j = m c j) → Q (.inl (some (.int (zI N)))) (sA μ m' l)) :
  ∀ (f k : Nat) (m5 : PM), k + f = x2 → m5 (s + 6) N = x1 → m5 (s + 7) N = (x2 : Int) → m5 (s + 9) N = L → m5 (s + 10) N = (orV V v0 k : Nat) → (∀ i : Nat, i < k → m5 (s + 8) (4 * N + i) = m 64 (x4 + i)) → m5 s 6 = N → (∀ c j, ¬ SN s N c j → m5 c j = m c j) →
  Wp d 66 (70, [some (.ref s), some (.int (zI x1)), some (.int (zI (x2 : Int))), some (.ref 64), some (.int (zI x4)), some (.int (zI N)), some (.int (zI (k : Int)))], [], sA μ m5 l) Q := by
  intro f
  induction f with
  | zero =>
    intro k m5 e a1 a2 a3 a4 a5 a6 a7
    refine K66_70 H hs ⟨by unfold iR; omega, by unfold iR; omega, fun _ => ?_, fun z => absurd (by omega) z⟩
    have ek : k = x2 := by omega
    rw [ek] at a4 a5
    have k' : ∀ c j, ¬ (c = s ∧ j = 6) → up m5 s 6 (m5 s 6 + 1) c j = m5 c j := fun c j q => up_o (by omega)
    refine hq _ ?_ ?_ ?_ ?_ (fun i hi => ?_) ?_ (fun c j q => ?_)
    · rw [k' _ _ (by omega)]; exact a1
    · rw [k' _ _ (by omega)]; exact a2
    · rw [k' _ _ (by omega)]; exact a3
    · rw [k' _ _ (by omega)]; exact a4
    · rw [k' _ _ (by omega)]; exact a5 i hi
    · rw [up_s, a6]
    · rw [k' _ _ (by omega)]; exact a7 c j q
  | succ f ih =>
    intro k m5 e a1 a2 a3 a4 a5 a6 a7
    have e64 : m5 64 (x4 + (k : Int)) = m 64 (x4 + (k : Int)) := a7 _ _ (by omega)
    have hk' := hk k (by omega)
    refine K66_70 H hs ⟨by unfold iR; omega, by unfold iR; omega, fun z => absurd z (by omega), fun _ => ⟨⟨by omega, by omega⟩, ⟨by omega, by omega⟩, hN, fun m1 e1 => ⟨by rw [e64]; omega, fun m2 e2 => ?_⟩⟩⟩
    rw [e64] at e1 e2
    have k1 : ∀ c j, ¬ ((c = s + 8 ∧ j = 4 * N + (k : Int)) ∨ (c = s + 10 ∧ j = N)) → m2 c j = m5 c j := by
      intro c j q
      rw [e2, up_o (by omega), e1, up_o (by omega)]
    have ev : m2 (s + 10) N = (orV V v0 (k + 1) : Nat) := by
      rw [e2, up_s, a4, a7 _ _ (by omega), (hv k (by omega)).2]
      exact zOr_n (orV_lt h0 k fun i hi => (hv i (by omega)).1) (hv k (by omega)).1
    have ekk : m2 (s + 8) (4 * N + (k : Int)) = m 64 (x4 + (k : Int)) := by
      rw [e2, up_o (by omega), e1, up_s]
    refine ih (k + 1) m2 (by omega) ?_ ?_ ?_ ev (fun i hi => ?_) ?_ (fun c j q => ?_)
    · rw [k1 _ _ (by omega)]; exact a1
    · rw [k1 _ _ (by omega)]; exact a2
    · rw [k1 _ _ (by omega)]; exact a3
    · by_cases c : i = k
      · rw [c]; exact ekk
      · rw [k1 _ _ (by omega)]; exact a5 i (by omega)
    · rw [k1 _ _ (by omega)]; exact a6
    · rw [k1 _ _ (by omega)]; exact a7 c j q
/-- addNode: a node of a name or a variable, with its parts -/
theorem k_addNode (H : CS μ) (hs : s = 22 ∨ s = 42) {N x1 x4 : Int} {x2 v0 : Nat} {V : Nat → Nat} (eN : m s 6 = N) (hN : 0 ≤ N ∧ N < 1024) (hx : iR x1) (h2 : x2 ≤ 4) (h4 : 0 ≤ x4 ∧ x4 + 4 ≤ 44) (hk : ∀ i : Nat, i < x2 → 0 ≤ m 64 (x4 + i) ∧ m 64 (x4 + i) < N) (h0 : v0 < 256) (e0 : (if 0 ≤ x1 then (0 : Int) else zShl 1 ((-1) - x1)) = (v0 : Int)) (hv : ∀ i : Nat, i < x2 → V i < 256 ∧ m (s + 10) (m 64 (x4 + i)) = (V i : Int))
  (hq : ∀ m' : PM, m' (s + 6) N = x1 → m' (s + 7) N = (x2 : Int) → m' (s + 9) N = (if x2 = 0 then N else m (s + 9) (m 64 x4)) → m' (s + 10) N = (orV V v0 x2 : Nat) → (∀ i : Nat, i < x2 → m' (s + 8) (4 * N + i) = m 64 (x4 + i)) → m' s 6 = N + 1 → (∀ c j, ¬ SN s N c j → m' c j = m c j) → Q (.inl (some (.int (zI N)))) (sA μ m' l)) :
  Wp d 66 (0, [some (.ref s), some (.int (zI x1)), some (.int (zI (x2 : Int))), some (.ref 64), some (.int (zI x4)), none, none], [], sA μ m l) Q := by
  refine K66_0 H hs ?_
  rw [eN]
  refine ⟨hN, fun m1 e1 => ⟨by unfold iR; omega, ⟨fun z => ⟨⟨by omega, by omega⟩, ?_, trivial⟩, fun _ => trivial⟩, fun v2 ev2 => ⟨hx, fun m3 e3 v4 ev4 m5 e5 => ?_⟩⟩⟩
  · have := hk 0 (by omega)
    rw [show x4 + ((0 : Nat) : Int) = x4 by omega] at this
    omega
  have k : ∀ c j, ¬ ((c = s + 6 ∨ c = s + 7 ∨ c = s + 9 ∨ c = s + 10) ∧ j = N) → m5 c j = m c j := by
    intro c j q
    rw [e5, up_o (by omega), e3, up_o (by omega), e1, up_o (by omega), up_o (by omega)]
  refine add_70 (m := m) H hs (L := if x2 = 0 then N else m (s + 9) (m 64 x4)) hN h2 h4 hk h0 hv hq x2 0 m5 (by omega) ?_ ?_ ?_ ?_ (fun i hi => absurd hi (Nat.not_lt_zero i)) ?_ (fun c j q => k c j (by omega))
  · rw [e5, up_o (by omega), e3, up_o (by omega), e1, up_o (by omega), up_s]
  · rw [e5, up_o (by omega), e3, up_o (by omega), e1, up_s]
  · rw [e5, up_o (by omega), e3, up_s, ev2]
    by_cases c : x2 = 0
    · rw [if_pos c, if_neg (by omega)]
    · rw [if_neg c, if_pos (by omega)]
  · rw [e5, up_s, ev4]
    exact e0
  · rw [k _ _ (by omega)]
    exact eN
end CP5
