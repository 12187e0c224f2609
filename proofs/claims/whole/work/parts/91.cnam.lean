/-! ===== the class's names: isName, intern ===== -/
theorem zI_2047 : zI 2047 = (Int16.ofInt 2047).toInt32 := by decide
theorem zAnd_r (x : Int) : ∃ t : Nat, t < 2048 ∧ zAnd x 2047 = (t : Int) := by
  obtain ⟨t, h1, h2⟩ := pk_andE (zI x) (m := (Int16.ofInt 2047).toInt32) 11 (by decide)
  refine ⟨t, h1, ?_⟩
  unfold zAnd
  rw [zI_2047, h2, nI_zI, zI_toInt (by omega)]
theorem zAnd_n (q : Nat) (h : q < 2048) : zAnd ((q : Int) + 1) 2047 = (((q + 1) % 2048 : Nat) : Int) := by
  have e : zI ((q : Int) + 1) = nI (q + 1) := by rw [nI_zI]; rfl
  unfold zAnd
  rw [zI_2047, e, pl_next q h, nI_zI, zI_toInt (by omega)]
/-- the sum of a name's signs -/
def hsS (w : List Int) : Int := w.foldl (fun x s => 31 * x + s) 0
/-- the place where a name's way begins -/
def hsP (w : List Int) : Int := zAnd (zXor (hsS w) (zUsh (hsS w) 11)) 2047
theorem hsS_snoc (w : List Int) (s : Int) : hsS (w ++ [s]) = 31 * hsS w + s := by simp [hsS]
/-- name k of the object a -/
def cn (m : PM) (a : Nat) (k : Nat) : List Int := sl (m (a + 2)) (m (a + 3) k) (m (a + 3) ((k : Int) + 1) - m (a + 3) k).toNat
/-- the names of the object a: c of them -/
def NcT (m : PM) (a c : Nat) : Prop := m a 4 = c ∧ c ≤ 1024 ∧ 0 ≤ m (a + 3) 0 ∧ (∀ k : Nat, k < c → m (a + 3) k ≤ m (a + 3) ((k : Int) + 1)) ∧ m (a + 3) c ≤ 2058 ∧ (∀ j, 0 ≤ m (a + 2) j ∧ m (a + 2) j ≤ 127)
theorem NcT_r {m : PM} {a c : Nat} (h : NcT m a c) : ∀ k : Nat, k ≤ c → 0 ≤ m (a + 3) k ∧ m (a + 3) k ≤ m (a + 3) c := by
  obtain ⟨h1, h2, h3, h4, h5, h6⟩ := h
  have up' : ∀ k : Nat, k ≤ c → 0 ≤ m (a + 3) k := by
    intro k
    induction k with
    | zero => intro _; exact h3
    | succ k ih =>
      intro hk
      have := h4 k (by omega)
      have := ih (by omega)
      have e : ((k + 1 : Nat) : Int) = (k : Int) + 1 := by omega
      rw [e]
      omega
  have dn : ∀ r k : Nat, k + r = c → m (a + 3) k ≤ m (a + 3) c := by
    intro r
    induction r with
    | zero => intro k hk; rw [show k = c by omega]; exact Int.le_refl _
    | succ r ih =>
      intro k hk
      have := h4 k (by omega)
      have := ih (k + 1) (by omega)
      have e : ((k + 1 : Nat) : Int) = (k : Int) + 1 := by omega
      rw [e] at this
      omega
  exact fun k hk => ⟨up' k hk, dn (c - k) k (by omega)⟩
section CNM
variable {d : Nat} {Q : Option Value ⊕ Nat → am_Mem → Prop} {μ : am_Mem} {m l : PM} {a tx n1 c k len : Nat} {b : Int}
theorem isN_15 (H : CS μ) (ha : a = 23 ∨ a = 43) (hr : tx = 17 ∨ tx = a + 1) (hk1 : am_kd μ tx = (5, n1)) (h1 : n1 ≤ 2058) (hN : NcT m a c) (hk : k < c) (hb : 0 ≤ b ∧ b + len ≤ n1) (ht : ∀ j, 0 ≤ m tx j ∧ m tx j ≤ 127) (hl : m (a + 3) ((k : Int) + 1) - m (a + 3) k = len) :
    ∀ (r j : Nat), j + r = len → (∀ i : Nat, i < j → m (a + 2) (m (a + 3) k + i) = m tx (b + i)) → Wp (d + 1) 50 (15, [some (.ref a), some (.int (zI k)), some (.ref tx), some (.int (zI b)), some (.int (zI len)), some (.int (zI j))], [], sA μ m l) (pI (fun y μ' => y = zI (if cn m a k = sl (m tx) b len then 1 else 0) ∧ μ' = sA μ m l) noX) := by
  have hrk := NcT_r hN k (by omega)
  have hrk1 := NcT_r hN (k + 1) (by omega)
  have e1 : ((k + 1 : Nat) : Int) = (k : Int) + 1 := by omega
  rw [e1] at hrk1
  have hcn : cn m a k = sl (m tx) b len ↔ ∀ i : Nat, i < len → m (a + 2) (m (a + 3) k + i) = m tx (b + i) := by
    unfold cn
    rw [sl_eq, hl]
    constructor
    · intro z i hi
      exact z.2 i (by omega)
    · intro z
      exact ⟨by omega, fun i hi => z i (by omega)⟩
  obtain ⟨g1, g2, g3, g4, g5, g6⟩ := hN
  intro r
  induction r with
  | zero =>
    intro j hj hs
    refine K50_15 H ha hr hk1 h1 ⟨by omega, by omega, fun _ => ⟨?_, rfl⟩, fun z => absurd (by omega) z⟩
    rw [if_pos (hcn.mpr (fun i hi => hs i (by omega)))]
  | succ r ih =>
    intro j hj hs
    have q1 := g6 (m (a + 3) k + j)
    have q2 := ht (b + j)
    refine K50_15 H ha hr hk1 h1 ⟨by omega, by omega, fun z => absurd z (by omega), fun _ => ⟨by omega, by omega, by omega, by omega, by omega, fun z => ?_, fun z => ⟨?_, rfl⟩⟩⟩
    · have e : ((j : Int) + 1) = ((j + 1 : Nat) : Int) := by omega
      rw [e]
      refine ih (j + 1) (by omega) (fun i hi => ?_)
      by_cases y : i = j
      · rw [y]; exact z
      · exact hs i (by omega)
    · rw [if_neg (fun y => z (hcn.mp y j (by omega)))]
theorem k_isName (H : CS μ) (ha : a = 23 ∨ a = 43) (hr : tx = 17 ∨ tx = a + 1) (hk1 : am_kd μ tx = (5, n1)) (h1 : n1 ≤ 2058) (hN : NcT m a c) (hk : k < c) (hb : 0 ≤ b ∧ b + len ≤ n1) (ht : ∀ j, 0 ≤ m tx j ∧ m tx j ≤ 127) : Wp (d + 1) 50 (0, [some (.ref a), some (.int (zI k)), some (.ref tx), some (.int (zI b)), some (.int (zI len)), none], [], sA μ m l) (pI (fun y μ' => y = zI (if cn m a k = sl (m tx) b len then 1 else 0) ∧ μ' = sA μ m l) noX) := by
  have hrk := NcT_r hN k (by omega)
  have hrk1 := NcT_r hN (k + 1) (by omega)
  have e1 : ((k + 1 : Nat) : Int) = (k : Int) + 1 := by omega
  rw [e1] at hrk1
  have g2 := hN.2.1
  have g5 := hN.2.2.2.2.1
  refine K50_0 H ha hr hk1 h1 ⟨fun y μ' => y = zI (m (a + 3) ((k : Int) + 1) - m (a + 3) k) ∧ μ' = sA μ m l, noX, K51_0 H ha ⟨by omega, by omega, rfl, rfl⟩, fun x μ' hp => ?_, fun _ _ z => z.elim⟩
  obtain ⟨rfl, rfl⟩ := hp
  refine K50_5 H ha hr hk1 h1 ⟨by omega, by omega, fun z => ?_, fun z => ⟨?_, rfl⟩⟩
  · exact isN_15 H ha hr hk1 h1 hN hk hb ht z len 0 (by omega) (fun i hi => absurd hi (Nat.not_lt_zero i))
  · rw [if_neg]
    intro y
    unfold cn at y
    rw [sl_eq] at y
    have := hN.2.2.2.1 k hk
    omega
/-- names with their table of places -/
def NcI (m : PM) (a c : Nat) : Prop := NcT m a c ∧ (∀ i : Nat, i < 2048 → 0 ≤ m (a + 4) i ∧ m (a + 4) i ≤ c) ∧ HT 2048 (fun i => (m (a + 4) i).toNat) (fun k => (hsP (cn m a k)).toNat) c
theorem int_6 (H : CS μ) (ha : a = 23 ∨ a = 43) (hr : tx = 17 ∨ tx = a + 1) (hk1 : am_kd μ tx = (5, n1)) (h1 : n1 ≤ 2058) (hb : 0 ≤ b ∧ b + len ≤ n1) (hq : Wp (d + 2) 49 (49, [some (.ref a), some (.ref tx), some (.int (zI b)), some (.int (zI len)), some (.int (zI (hsS (sl (m tx) b len)))), some (.int (zI (hsP (sl (m tx) b len)))), some (.int (zI 0)), none], [], sA μ m l) Q) :
    ∀ (r j : Nat), j + r = len → Wp (d + 2) 49 (6, [some (.ref a), some (.ref tx), some (.int (zI b)), some (.int (zI len)), some (.int (zI (hsS (sl (m tx) b j)))), some (.int (zI j)), none, none], [], sA μ m l) Q := by
  intro r
  induction r with
  | zero =>
    intro j hj
    obtain rfl : j = len := by omega
    refine K49_6 H ha hr hk1 h1 ⟨by omega, by omega, fun _ => ?_, fun z => absurd (by omega) z⟩
    rintro v1 rfl
    exact hq
  | succ r ih =>
    intro j hj
    refine K49_6 H ha hr hk1 h1 ⟨by omega, by omega, fun z => absurd z (by omega), fun _ => ⟨by omega, ?_⟩⟩
    rintro v2 rfl
    have := ih (j + 1) (by omega)
    rw [sl_succ, hsS_snoc] at this
    have e : ((j + 1 : Nat) : Int) = (j : Int) + 1 := by omega
    rw [e] at this
    exact this
/-- the way that intern goes -/
theorem int_49 (H : CS μ) (ha : a = 23 ∨ a = 43) (hr : tx = 17 ∨ tx = a + 1) (hk1 : am_kd μ tx = (5, n1)) (h1 : n1 ≤ 2058) (hI : NcI m a c) (hb : 0 ≤ b ∧ b + len ≤ n1) (ht : ∀ j, 0 ≤ m tx j ∧ m tx j ≤ 127) {t0 mm : Nat} {hs : Int} (h0 : t0 < 2048) (hm : mm < 2048) (hz : m (a + 4) (((t0 + mm) % 2048 : Nat) : Int) = 0) (hnz : ∀ m', m' < mm → ¬ m (a + 4) (((t0 + m') % 2048 : Nat) : Int) = 0)
    (hf : ∀ k : Nat, k < c → cn m a k = sl (m tx) b len → Q (.inl (some (.int (zI k)))) (sA μ m l))
    (hn : (∀ m', m' < mm → ∀ k : Nat, m (a + 4) (((t0 + m') % 2048 : Nat) : Int) = (k : Int) + 1 → ¬ cn m a k = sl (m tx) b len) → ∀ o7, Wp (d + 2) 49 (111, [some (.ref a), some (.ref tx), some (.int (zI b)), some (.int (zI len)), some (.int (zI hs)), some (.int (zI (((t0 + mm) % 2048 : Nat) : Int))), some (.int (zI 0)), o7], [], sA μ m l) Q) :
    ∀ (r i : Nat) (o7 : Option Value), i + r = mm → (∀ m', m' < i → ∀ k : Nat, m (a + 4) (((t0 + m') % 2048 : Nat) : Int) = (k : Int) + 1 → ¬ cn m a k = sl (m tx) b len) → Wp (d + 2) 49 (49, [some (.ref a), some (.ref tx), some (.int (zI b)), some (.int (zI len)), some (.int (zI hs)), some (.int (zI (((t0 + i) % 2048 : Nat) : Int))), some (.int (zI i)), o7], [], sA μ m l) Q := by
  obtain ⟨hN, hv, hH⟩ := hI
  have hc := hN.2.1
  intro r
  induction r with
  | zero =>
    intro i o7 hi hno
    obtain rfl : i = mm := by omega
    have hq : (t0 + i) % 2048 < 2048 := Nat.mod_lt _ (by omega)
    refine K49_49 H ha hr hk1 h1 ⟨by omega, fun z => absurd z (by omega), fun _ => ⟨by omega, by rw [hz]; omega, fun z => absurd (by rw [hz]; omega) z, fun _ => hn hno _⟩⟩
  | succ r ih =>
    intro i o7 hi hno
    have him : i < mm := by omega
    have hq : (t0 + i) % 2048 < 2048 := Nat.mod_lt _ (by omega)
    obtain ⟨v1, v2⟩ := hv _ hq
    have vz := hnz i him
    obtain ⟨k, hk⟩ : ∃ k : Nat, m (a + 4) (((t0 + i) % 2048 : Nat) : Int) = (k : Int) + 1 := ⟨(m (a + 4) (((t0 + i) % 2048 : Nat) : Int)).toNat - 1, by omega⟩
    have ek : (k : Int) + 1 - 1 = k := by omega
    refine K49_49 H ha hr hk1 h1 ⟨by omega, fun z => absurd z (by omega), fun _ => ⟨by omega, by rw [hk]; omega, fun _ => ?_, fun z => absurd (by rw [hk]; omega) z⟩⟩
    rw [hk, ek]
    refine ⟨_, _, k_isName H ha hr hk1 h1 hN (by omega) hb ht, fun x μ' hp => ?_, fun _ _ z => z.elim⟩
    obtain ⟨rfl, rfl⟩ := hp
    by_cases y : cn m a k = sl (m tx) b len
    · rw [if_pos y]
      exact K49_86 H ha hr hk1 h1 ⟨by decide, fun z => absurd z (by decide), fun _ => hf k (by omega) y⟩
    · rw [if_neg y]
      refine K49_86 H ha hr hk1 h1 ⟨by decide, fun _ => ?_, fun z => absurd rfl z⟩
      rw [zAnd_n _ hq]
      have e : ((t0 + i) % 2048 + 1) % 2048 = (t0 + (i + 1)) % 2048 := by omega
      have e2 : ((i : Int) + 1) = ((i + 1 : Nat) : Int) := by omega
      rw [e, e2]
      refine ih (i + 1) _ (by omega) (fun m' hm' k' hk' => ?_)
      by_cases q : m' = i
      · rw [q, hk] at hk'
        have : k' = k := by omega
        rw [this]
        exact y
      · exact hno m' (by omega) k' hk'
end CNM
