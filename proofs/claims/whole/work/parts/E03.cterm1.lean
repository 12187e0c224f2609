/-! ===== the class's terms: the table, intern ===== -/
theorem zXor_R (x y : Int) : iR (zXor x y) := by
  have h1 := (zI x ^^^ zI y).toInt_lt
  have h2 := (zI x ^^^ zI y).le_toInt
  unfold zXor
  exact ⟨by omega, by omega⟩
theorem zAnd_rk (k : Nat) (hk : k ≤ 30) (x : Int) : ∃ t : Nat, t < 2 ^ k ∧ zAnd x (((2 ^ k : Nat) : Int) - 1) = (t : Int) := by
  have hp : 2 ^ k ≤ 2 ^ 30 := Nat.pow_le_pow_right (by decide) hk
  have h1 : 1 ≤ 2 ^ k := Nat.one_le_two_pow
  have e30 : (2 : Nat) ^ 30 = 1073741824 := by decide
  have ez : ((2 ^ k : Nat) : Int) - 1 = ((2 ^ k - 1 : Nat) : Int) := by omega
  have hb : (zI (((2 ^ k - 1 : Nat)) : Int)).toBitVec.toNat = 2 ^ k - 1 := zI_bv (by omega)
  have hl : ((zI x).toBitVec &&& (zI ((2 ^ k - 1 : Nat) : Int)).toBitVec).toNat < 2 ^ k := by
    rw [BitVec.toNat_and, hb, Nat.and_two_pow_sub_one_eq_mod]
    exact Nat.mod_lt _ (by omega)
  refine ⟨((zI x).toBitVec &&& (zI ((2 ^ k - 1 : Nat) : Int)).toBitVec).toNat, hl, ?_⟩
  rw [ez]
  show ((zI x).toBitVec &&& (zI ((2 ^ k - 1 : Nat) : Int)).toBitVec).toInt = _
  exact BitVec.toInt_eq_toNat_of_lt (by omega)
theorem zAnd_nk (k : Nat) (hk : k ≤ 30) (q : Nat) (h : q < 2 ^ k) : zAnd ((q : Int) + 1) (((2 ^ k : Nat) : Int) - 1) = (((q + 1) % 2 ^ k : Nat) : Int) := by
  have hp : 2 ^ k ≤ 2 ^ 30 := Nat.pow_le_pow_right (by decide) hk
  have h1 : 1 ≤ 2 ^ k := Nat.one_le_two_pow
  have e30 : (2 : Nat) ^ 30 = 1073741824 := by decide
  have ez : ((2 ^ k : Nat) : Int) - 1 = ((2 ^ k - 1 : Nat) : Int) := by omega
  have eq : ((q : Int) + 1) = ((q + 1 : Nat) : Int) := by omega
  have hb : (zI (((2 ^ k - 1 : Nat)) : Int)).toBitVec.toNat = 2 ^ k - 1 := zI_bv (by omega)
  have e : ((zI ((q + 1 : Nat) : Int)).toBitVec &&& (zI ((2 ^ k - 1 : Nat) : Int)).toBitVec).toNat = (q + 1) % 2 ^ k := by
    rw [BitVec.toNat_and, hb, zI_bv (by omega), Nat.and_two_pow_sub_one_eq_mod]
  have hl : (q + 1) % 2 ^ k < 2 ^ k := Nat.mod_lt _ (by omega)
  rw [ez, eq]
  show ((zI ((q + 1 : Nat) : Int)).toBitVec &&& (zI ((2 ^ k - 1 : Nat) : Int)).toBitVec).toInt = _
  rw [BitVec.toInt_eq_toNat_of_lt (by rw [e]; omega), e]
theorem TQ_k {q N P S : Nat} (hq : TQ q N P S) : ∃ k, k ≤ 30 ∧ S = 2 ^ k := by
  rcases hq.1 with h | h
  · exact ⟨13, by decide, h.2.2⟩
  · exact ⟨17, by decide, h.2.2⟩
/-- the sum of a term's name and its parts' sums -/
def hcN (h : Int → Int) (x : Int) (n : Nat) (ps : List Int) : Int := ps.foldl (fun y p => (zXor y (zUsh y 15) + h p) * (-2048144789)) (x * (-1640531535) + (n : Int))
def hcF (h : Int → Int) (x : Int) (ps : List Int) : Int := zXor (hcN h x ps.length ps) (zUsh (hcN h x ps.length ps) 13)
theorem hcN_snoc (h : Int → Int) (x : Int) (n : Nat) (ps : List Int) (p : Int) : hcN h x n (ps ++ [p]) = (zXor (hcN h x n ps) (zUsh (hcN h x n ps) 15) + h p) * (-2048144789) := by simp [hcN]
theorem hcN_cg {h h' : Int → Int} {x : Int} {n : Nat} : ∀ (ps : List Int) (y : Int), (∀ p, p ∈ ps → h p = h' p) → ps.foldl (fun y p => (zXor y (zUsh y 15) + h p) * (-2048144789)) y = ps.foldl (fun y p => (zXor y (zUsh y 15) + h' p) * (-2048144789)) y := by
  intro ps
  induction ps with
  | nil => intro y _; rfl
  | cons p ps ih =>
    intro y hh
    rw [List.foldl_cons, List.foldl_cons, hh p List.mem_cons_self]
    exact ih _ (fun p' hp => hh p' (List.mem_cons_of_mem _ hp))
theorem hcF_cg {h h' : Int → Int} {x : Int} {ps : List Int} (hh : ∀ p, p ∈ ps → h p = h' p) : hcF h x ps = hcF h' x ps := by
  unfold hcF hcN
  rw [hcN_cg (x := x) (n := ps.length) ps _ hh]
/-- term t has this name and these parts -/
def isC (q : Nat) (m : PM) (t : Int) (x : Int) (ps : List Int) : Prop := m q t = x ∧ m (q + 1) t = (ps.length : Int) ∧ sl (m (q + 2)) (4 * t) ps.length = ps
theorem isC_key {q : Nat} {m : PM} {t x : Int} {ps : List Int} (h : isC q m t x ps) : m q t = x ∧ sl (m (q + 2)) (4 * t) (m (q + 1) t).toNat = ps := by
  obtain ⟨h1, h2, h3⟩ := h
  refine ⟨h1, ?_⟩
  rw [h2]
  exact h3
/-- the table of the class's terms: T of them -/
def CtI (q N S : Nat) (m : PM) (T : Nat) : Prop := m 84 9 = (T : Int) ∧ T ≤ N ∧ (∀ t : Nat, t < T → (0 ≤ m q t ∧ m q t < 1024) ∧ (0 ≤ m (q + 1) t ∧ m (q + 1) t ≤ 4) ∧ (∀ k : Nat, (k : Int) < m (q + 1) t → 0 ≤ m (q + 2) (4 * (t : Int) + k) ∧ m (q + 2) (4 * (t : Int) + k) < (t : Int)) ∧ m (q + 4) t = hcF (m (q + 4)) (m q t) (sl (m (q + 2)) (4 * (t : Int)) (m (q + 1) t).toNat) ∧ (0 ≤ m (q + 5) t ∧ m (q + 5) t < (S : Int)) ∧ m (q + 7) (m (q + 5) t) = (t : Int) + 1) ∧ (∀ i : Nat, i < S → 0 ≤ m (q + 7) i ∧ m (q + 7) i ≤ (T : Int)) ∧ HC S (fun i => (m (q + 7) i).toNat) (fun k => (zAnd (m (q + 4) k) ((S : Int) - 1)).toNat) T
/-- what interning a term may write, at term T -/
abbrev WCt (q T : Nat) (c : Nat) (j : Int) : Prop := (c = q + 2 ∧ 4 * (T : Int) ≤ j ∧ j < 4 * (T : Int) + 4) ∨ ((c = q ∨ c = q + 1 ∨ c = q + 3 ∨ c = q + 4 ∨ c = q + 5) ∧ j = (T : Int)) ∨ c = q + 7 ∨ (c = 84 ∧ j = 9)
/-- how long the parts' texts are -/
def plC (q : Nat) (m : PM) : Nat → Int
  | 0 => 0
  | j + 1 => plC q m j + m (q + 3) (m 93 j)
theorem mem_sl {r : Int → Int} {b : Int} {n : Nat} {p : Int} (h : p ∈ sl r b n) : ∃ k : Nat, k < n ∧ p = r (b + k) := by
  unfold sl at h
  obtain ⟨k, hk, e⟩ := List.mem_map.mp h
  exact ⟨k, List.mem_range.mp hk, e.symm⟩
section CT1
variable {d : Nat} {μ : am_Mem} {m l : PM} {Q : Option Value ⊕ Nat → am_Mem → Prop} {x : Int} {c T q N P S a : Nat}
theorem CtI_new {m' : PM} {t0 mm : Nat} (hq : TQ q N P S) (hI : CtI q N S m T) (hT : T < N) (hx : 0 ≤ x ∧ x < 1024) (hc : c ≤ 4) (hps : ∀ k : Nat, k < c → 0 ≤ m 93 k ∧ m 93 k < (T : Int)) (hm : mm < S) (ep : zAnd (hcF (m (q + 4)) x (sl (m 93) 0 c)) ((S : Int) - 1) = (t0 : Int)) (hz : m (q + 7) (((t0 + mm) % S : Nat) : Int) = 0) (hnz : ∀ m', m' < mm → ¬ m (q + 7) (((t0 + m') % S : Nat) : Int) = 0)
    (k : ∀ c j, ¬ WCt q T c j → m' c j = m c j) (kp : ∀ k : Nat, k < c → m' (q + 2) (4 * (T : Int) + k) = m 93 k) (e0 : m' q T = x) (e1 : m' (q + 1) T = (c : Int)) (e4 : m' (q + 4) T = hcF (m (q + 4)) x (sl (m 93) 0 c)) (e5 : m' (q + 5) T = (((t0 + mm) % S : Nat) : Int)) (e9 : m' 84 9 = (T : Int) + 1) (e7 : m' (q + 7) (((t0 + mm) % S : Nat) : Int) = (T : Int) + 1) (k7 : ∀ i, ¬ i = (((t0 + mm) % S : Nat) : Int) → m' (q + 7) i = m (q + 7) i) :
    CtI q N S m' (T + 1) ∧ isC q m' T x (sl (m 93) 0 c) := by
  have hS : 0 < S := by omega
  obtain ⟨h1, h2, h4, h5, h6⟩ := hI
  have hl := Nat.mod_lt (t0 + mm) hS
  have eps : sl (m' (q + 2)) (4 * (T : Int)) c = sl (m 93) 0 c := sl_eq.mpr ⟨rfl, fun j hj => by rw [kp j hj]; congr 1; omega⟩
  have hold : ∀ t : Nat, t < T → m' q t = m q t ∧ m' (q + 1) t = m (q + 1) t ∧ m' (q + 4) t = m (q + 4) t ∧ m' (q + 5) t = m (q + 5) t ∧ ∀ j : Nat, j < 4 → m' (q + 2) (4 * (t : Int) + j) = m (q + 2) (4 * (t : Int) + j) := fun t ht => ⟨k _ _ (by omega), k _ _ (by omega), k _ _ (by omega), k _ _ (by omega), fun j hj => k _ _ (by omega)⟩
  have h44 : ∀ p : Int, 0 ≤ p → p < (T : Int) → m (q + 4) p = m' (q + 4) p := fun p p0 p1 => (k _ _ (by omega)).symm
  refine ⟨⟨by rw [e9]; omega, by omega, fun t ht => ?_, fun i hi => ?_, ?_⟩, e0, by rw [e1, sl_len], by rw [sl_len]; exact eps⟩
  · by_cases z : t = T
    · rw [z, e0, e1, e4, e5]
      refine ⟨hx, ⟨by omega, by omega⟩, fun j hj => by rw [kp j (by omega)]; exact hps j (by omega), ?_, ⟨by omega, by omega⟩, e7⟩
      rw [show ((c : Int)).toNat = c from rfl, eps]
      exact hcF_cg fun p hp => by
        obtain ⟨j, hj, ej⟩ := mem_sl hp
        rw [show (0 : Int) + (j : Int) = (j : Int) by omega] at ej
        have := hps j hj
        exact h44 p (by omega) (by omega)
    · have ht' : t < T := by omega
      obtain ⟨a1, a2, a3, a4, a5⟩ := hold t ht'
      obtain ⟨b1, b2, b3, b4, b5, b6⟩ := h4 t ht'
      have es : sl (m' (q + 2)) (4 * (t : Int)) (m (q + 1) t).toNat = sl (m (q + 2)) (4 * (t : Int)) (m (q + 1) t).toNat := sl_eq.mpr ⟨rfl, fun j hj => a5 j (by omega)⟩
      rw [a1, a2, a3, a4, es]
      refine ⟨b1, b2, fun j hj => by rw [a5 j (by omega)]; exact b3 j hj, ?_, b5, ?_⟩
      · rw [b4]
        exact hcF_cg fun p hp => by
          obtain ⟨j, hj, ej⟩ := mem_sl hp
          have := b3 j (by omega)
          exact h44 p (by omega) (by omega)
      · rw [k7 _ (fun w => by rw [w, hz] at b6; omega)]
        exact b6
  · have := h5 i hi
    by_cases z : (i : Int) = (((t0 + mm) % S : Nat) : Int)
    · rw [z, e7]
      omega
    · rw [k7 _ z]
      omega
  · refine HC_cg hS (fun i hi => ?_) (fun j hj => ?_) (HC_add h6 (t := t0) (m := mm) hS hm (by show (m (q + 7) (((t0 + mm) % S : Nat) : Int)).toNat = 0; rw [hz]; rfl) (fun m' hm' z => hnz m' hm' (by
      have z' : (m (q + 7) (((t0 + m') % S : Nat) : Int)).toNat = 0 := z
      have := h5 ((t0 + m') % S) (Nat.mod_lt _ hS)
      omega)))
    · show (if i = (t0 + mm) % S then T + 1 else (m (q + 7) i).toNat) = (m' (q + 7) i).toNat
      by_cases z : i = (t0 + mm) % S
      · rw [if_pos z, z, e7]
        omega
      · rw [if_neg z, k7 _ (show ¬ ((i : Nat) : Int) = (((t0 + mm) % S : Nat) : Int) by omega)]
    · show (if j = T then t0 else (zAnd (m (q + 4) j) ((S : Int) - 1)).toNat) = (zAnd (m' (q + 4) j) ((S : Int) - 1)).toNat
      by_cases z : j = T
      · rw [if_pos z, z, e4, ep]
        rfl
      · rw [if_neg z, k _ _ (by omega)]
/-- the name and the parts' sums are mixed -/
theorem ti_10 (H : CS μ) (TS_ : TS μ q N P S) (hq : TQ q N P S) (ha : a = 23 ∨ a = 43) (h0 : am_F μ 84 0 = a) (hc : c ≤ 4) (hT : T ≤ N) (hps : ∀ k : Nat, k < c → 0 ≤ m 93 k ∧ m 93 k < (T : Int)) (hk : ∀ v : Int, v = zAnd (hcF (m (q + 4)) x (sl (m 93) 0 c)) ((S : Int) - 1) → Wp d 91 (66, [some (.ref 84), some (.int (zI x)), some (.int (zI (c : Int))), some (.int (zI (hcF (m (q + 4)) x (sl (m 93) 0 c)))), some (.int (zI v)), some (.int (zI 0)), none, none], [], sA μ m l) Q) : ∀ (f j : Nat), j + f = c → Wp d 91 (10, [some (.ref 84), some (.int (zI x)), some (.int (zI (c : Int))), some (.int (zI (hcN (m (q + 4)) x c (sl (m 93) 0 j)))), some (.int (zI (j : Int))), none, none, none], [], sA μ m l) Q := by
  intro f
  induction f with
  | zero =>
    intro j hj
    have ej : j = c := by omega
    refine K91_10 H TS_ hq ha h0 ⟨⟨by omega, by omega⟩, ⟨by omega, by omega⟩, fun _ => ?_, fun z => by omega⟩
    rintro v1 e1
    have e : hcF (m (q + 4)) x (sl (m 93) 0 c) = zXor (hcN (m (q + 4)) x c (sl (m 93) 0 c)) (zUsh (hcN (m (q + 4)) x c (sl (m 93) 0 c)) 13) := by
      unfold hcF
      rw [sl_len]
    rw [ej] at e1 ⊢
    rw [← e] at e1 ⊢
    exact hk v1 e1
  | succ f ih =>
    intro j hj
    have hp := hps j (by omega)
    refine K91_10 H TS_ hq ha h0 ⟨⟨by omega, by omega⟩, ⟨by omega, by omega⟩, fun z => by omega, fun _ => ⟨⟨by omega, by omega⟩, ⟨by omega, by omega⟩, ?_⟩⟩
    rintro v2 e2
    have z := ih (j + 1) (by omega)
    rw [sl_succ, hcN_snoc, show (0 : Int) + (j : Int) = (j : Int) by omega, ← e2] at z
    exact z
/-- are the parts the same -/
theorem ti_133 {k : Nat} {x3 x4 x5 : Int} (H : CS μ) (TS_ : TS μ q N P S) (hq : TQ q N P S) (ha : a = 23 ∨ a = 43) (h0 : am_F μ 84 0 = a) (hI : CtI q N S m T) (hk : k < T) (hc : c ≤ 4) (e1 : m (q + 1) k = (c : Int)) (hps : ∀ k : Nat, k < c → 0 ≤ m 93 k ∧ m 93 k < (T : Int))
    (hy : (∀ i : Nat, i < c → m (q + 2) (4 * (k : Int) + i) = m 93 i) → Q (.inl (some (.int (zI (k : Int))))) (sA μ m l))
    (hn : ∀ j : Nat, j < c → ¬ m (q + 2) (4 * (k : Int) + j) = m 93 j → ∀ v : Int, v = zAnd (x4 + 1) ((S : Int) - 1) → ∀ o7 : Option Value, Wp d 91 (66, [some (.ref 84), some (.int (zI x)), some (.int (zI (c : Int))), some (.int (zI x3)), some (.int (zI v)), some (.int (zI (x5 + 1))), some (.int (zI (k : Int))), o7], [], sA μ m l) Q) : ∀ (f j : Nat), j + f = c → (∀ i : Nat, i < j → m (q + 2) (4 * (k : Int) + i) = m 93 i) → Wp d 91 (133, [some (.ref 84), some (.int (zI x)), some (.int (zI (c : Int))), some (.int (zI x3)), some (.int (zI x4)), some (.int (zI x5)), some (.int (zI (k : Int))), some (.int (zI (j : Int)))], [], sA μ m l) Q := by
  have hT := hI.2.1
  intro f
  induction f with
  | zero =>
    intro j hj hs
    refine K91_133 H TS_ hq ha h0 ⟨⟨by omega, by omega⟩, ⟨by omega, by omega⟩, fun _ => ?_, fun z => by omega⟩
    refine K91_167 H TS_ hq ha h0 ⟨⟨by omega, by omega⟩, ⟨by omega, by omega⟩, fun z => by omega, fun _ => ?_⟩
    exact hy (fun i hi => hs i (by omega))
  | succ f ih =>
    intro j hj hs
    have hp := hps j (by omega)
    have hk2 := (hI.2.2.1 k hk).2.2.1 j (by omega)
    refine K91_133 H TS_ hq ha h0 ⟨⟨by omega, by omega⟩, ⟨by omega, by omega⟩, fun z => by omega, fun _ => ⟨⟨by omega, by omega⟩, ⟨by omega, by omega⟩, ⟨by omega, by omega⟩, ⟨by omega, by omega⟩, fun z => ?_, fun z => ?_⟩⟩
    · refine K91_167 H TS_ hq ha h0 ⟨⟨by omega, by omega⟩, ⟨by omega, by omega⟩, fun _ => ?_, fun w => by omega⟩
      rintro v1 ev
      exact hn j (by omega) z v1 ev _
    · refine ih (j + 1) (by omega) (fun i hi => ?_)
      by_cases w : i = j
      · rw [w]
        exact Classical.byContradiction z
      · exact hs i (by omega)
/-- the new term's parts are laid down -/
theorem ti_234 {x3 x4 b : Int} (H : CS μ) (TS_ : TS μ q N P S) (hq : TQ q N P S) (ha : a = 23 ∨ a = 43) (h0 : am_F μ 84 0 = a) (hc : c ≤ 4) (hT : T < N) (e9 : m 84 9 = (T : Int)) (hx4 : 0 ≤ x4 ∧ x4 < (S : Int)) (hps : ∀ k : Nat, k < c → 0 ≤ m 93 k ∧ m 93 k < (T : Int))
    (hd : ∀ m' : PM, (∀ c j, ¬ WCt q T c j → m' c j = m c j) → (∀ k : Nat, k < c → m' (q + 2) (4 * (T : Int) + k) = m 93 k) → m' q T = x → m' (q + 1) T = (c : Int) → m' (q + 3) T = b + plC q m c → m' (q + 4) T = x3 → m' (q + 5) T = x4 → m' 84 9 = (T : Int) + 1 → m' (q + 7) x4 = (T : Int) + 1 → (∀ i, ¬ i = x4 → m' (q + 7) i = m (q + 7) i) → Q (.inl (some (.int (zI (T : Int))))) (sA μ m' l)) : ∀ (f j : Nat) (mj : PM) (o7 : Option Value), j + f = c → (∀ c i, ¬ (c = q + 2 ∧ 4 * (T : Int) ≤ i ∧ i < 4 * (T : Int) + 4) → mj c i = m c i) → (∀ k : Nat, k < j → mj (q + 2) (4 * (T : Int) + k) = m 93 k) → Wp d 91 (234, [some (.ref 84), some (.int (zI x)), some (.int (zI (c : Int))), some (.int (zI x3)), some (.int (zI x4)), some (.int (zI (b + plC q m j))), some (.int (zI (j : Int))), o7], [], sA μ mj l) Q := by
  intro f
  induction f with
  | zero =>
    intro j mj o7 hj g1 g2
    have ej : j = c := by omega
    have e9j : mj 84 9 = (T : Int) := by rw [g1 _ _ (by omega)]; exact e9
    refine K91_234 H TS_ hq ha h0 ⟨⟨by omega, by omega⟩, ⟨by omega, by omega⟩, fun _ => ?_, fun z => by omega⟩
    rw [e9j]
    refine ⟨⟨by omega, by omega⟩, ?_⟩
    rintro m1 e1 m2 e2 m3 e3
    refine ⟨hx4, ?_⟩
    rw [show (T : Int) + 1 - 1 = (T : Int) by omega]
    generalize e4 : up m3 (q + 7) x4 ((T : Int) + 1) = m4
    have f4 : ∀ c i, ¬ (c = q + 7 ∧ i = x4) → m4 c i = m3 c i := fun c i z => by rw [← e4]; exact up_o z
    have f3 : ∀ c i, ¬ ((c = q + 5 ∧ i = (T : Int)) ∨ (c = 84 ∧ i = 9)) → m3 c i = m2 c i := fun c i z => by rw [e3, up_o (by omega), up_o (by omega)]
    have f2 : ∀ c i, ¬ ((c = q + 3 ∨ c = q + 4) ∧ i = (T : Int)) → m2 c i = m1 c i := fun c i z => by rw [e2, up_o (by omega), up_o (by omega)]
    have f1 : ∀ c i, ¬ ((c = q ∨ c = q + 1) ∧ i = (T : Int)) → m1 c i = mj c i := fun c i z => by rw [e1, up_o (by omega), up_o (by omega)]
    refine hd m4 (fun c i z => ?_) (fun k hk => ?_) ?_ ?_ ?_ ?_ ?_ ?_ ?_ (fun i z => ?_)
    · rw [f4 c i (by omega), f3 c i (by omega), f2 c i (by omega), f1 c i (by omega), g1 c i (by omega)]
    · rw [f4 _ _ (by omega), f3 _ _ (by omega), f2 _ _ (by omega), f1 _ _ (by omega)]
      exact g2 k (by omega)
    · rw [f4 _ _ (by omega), f3 _ _ (by omega), f2 _ _ (by omega), e1, up_c (by omega), up_s]
    · rw [f4 _ _ (by omega), f3 _ _ (by omega), f2 _ _ (by omega), e1, up_s]
    · rw [f4 _ _ (by omega), f3 _ _ (by omega), e2, up_c (by omega), up_s, ej]
    · rw [f4 _ _ (by omega), f3 _ _ (by omega), e2, up_s]
    · rw [f4 _ _ (by omega), e3, up_c (by omega), up_s]
    · rw [f4 _ _ (by omega), e3, up_s]
    · rw [← e4, up_s]
    · rw [f4 _ _ (by omega), f3 _ _ (by omega), f2 _ _ (by omega), f1 _ _ (by omega), g1 _ _ (by omega)]
  | succ f ih =>
    intro j mj o7 hj g1 g2
    have hp := hps j (by omega)
    have e9j : mj 84 9 = (T : Int) := by rw [g1 _ _ (by omega)]; exact e9
    have e93 : mj 93 (j : Int) = m 93 (j : Int) := g1 _ _ (by omega)
    refine K91_234 H TS_ hq ha h0 ⟨⟨by omega, by omega⟩, ⟨by omega, by omega⟩, fun z => by omega, fun _ => ?_⟩
    rw [e9j, e93]
    refine ⟨⟨by omega, by omega⟩, ⟨by omega, by omega⟩, ⟨by omega, by omega⟩, ?_⟩
    rintro m4 e4 v5 e5
    have z := ih (j + 1) m4 o7 (by omega) (fun c i z => by rw [e4, up_o (by omega)]; exact g1 c i z) (fun k hk => by
      by_cases w : k = j
      · rw [w, e4, up_s]
      · rw [e4, up_i (by omega)]
        exact g2 k (by omega))
    have ev : b + plC q m (j + 1) = v5 := by
      rw [e5, g1 (q + 3) _ (by omega)]
      show b + (plC q m j + m (q + 3) (m 93 j)) = _
      omega
    rw [ev] at z
    exact z
end CT1
