/-! ===== the class's terms: grow, reserve ===== -/
/-- the new table after i terms -/
def GI (q S : Nat) (m : PM) (i : Nat) : Prop := (∀ t : Nat, t < i → (0 ≤ m (q + 5) t ∧ m (q + 5) t < (S : Int)) ∧ m (q + 7) (m (q + 5) t) = (t : Int) + 1) ∧ (∀ p : Nat, p < S → 0 ≤ m (q + 7) p ∧ m (q + 7) p ≤ (i : Int)) ∧ HC S (fun p => (m (q + 7) p).toNat) (fun k => (zAnd (m (q + 4) k) ((S : Int) - 1)).toNat) i
section CGL
variable {d : Nat} {μ : am_Mem} {m l : PM} {Q : Option Value ⊕ Nat → am_Mem → Prop} {q N P S T : Nat}
theorem GI_add {i t0 mm : Nat} {m' : PM} (hS : 0 < S) (h : GI q S m i) (hm : mm < S) (ep : zAnd (m (q + 4) i) ((S : Int) - 1) = (t0 : Int)) (hz : m (q + 7) (((t0 + mm) % S : Nat) : Int) = 0) (hnz : ∀ k, k < mm → ¬ m (q + 7) (((t0 + k) % S : Nat) : Int) = 0)
    (em : m' = up (up m (q + 7) (((t0 + mm) % S : Nat) : Int) ((i : Int) + 1)) (q + 5) (i : Int) (((t0 + mm) % S : Nat) : Int)) : GI q S m' (i + 1) := by
  obtain ⟨h1, h2, h3⟩ := h
  have hl := Nat.mod_lt (t0 + mm) hS
  have k7s : m' (q + 7) (((t0 + mm) % S : Nat) : Int) = (i : Int) + 1 := by rw [em, up_c (by omega), up_s]
  have k7 : ∀ p : Int, ¬ p = (((t0 + mm) % S : Nat) : Int) → m' (q + 7) p = m (q + 7) p := fun p hp => by rw [em, up_c (by omega), up_i hp]
  have k5s : m' (q + 5) (i : Int) = (((t0 + mm) % S : Nat) : Int) := by rw [em, up_s]
  have k5 : ∀ p : Int, ¬ p = (i : Int) → m' (q + 5) p = m (q + 5) p := fun p hp => by rw [em, up_i hp, up_c (by omega)]
  have k4 : ∀ p : Int, m' (q + 4) p = m (q + 4) p := fun p => by rw [em, up_c (by omega), up_c (by omega)]
  refine ⟨fun t ht => ?_, fun p hp => ?_, ?_⟩
  · by_cases z : t = i
    · rw [z, k5s, k7s]
      exact ⟨⟨by omega, by omega⟩, rfl⟩
    · obtain ⟨a1, a2⟩ := h1 t (by omega)
      rw [k5 _ (by omega), k7 _ (fun w => by rw [w, hz] at a2; omega)]
      exact ⟨a1, a2⟩
  · have := h2 p hp
    by_cases z : (p : Int) = (((t0 + mm) % S : Nat) : Int)
    · rw [z, k7s]
      omega
    · rw [k7 _ z]
      omega
  · refine HC_cg hS (fun p hp => ?_) (fun j hj => ?_) (HC_add h3 (t := t0) (m := mm) hS hm (by show (m (q + 7) (((t0 + mm) % S : Nat) : Int)).toNat = 0; rw [hz]; rfl) (fun k hk z => hnz k hk (by
      have z' : (m (q + 7) (((t0 + k) % S : Nat) : Int)).toNat = 0 := z
      have := h2 ((t0 + k) % S) (Nat.mod_lt _ hS)
      omega)))
    · show (if p = (t0 + mm) % S then i + 1 else (m (q + 7) p).toNat) = (m' (q + 7) p).toNat
      by_cases z : p = (t0 + mm) % S
      · rw [if_pos z, z, k7s]
        omega
      · rw [if_neg z, k7 _ (show ¬ ((p : Nat) : Int) = (((t0 + mm) % S : Nat) : Int) by omega)]
    · show (if j = i then t0 else (zAnd (m (q + 4) j) ((S : Int) - 1)).toNat) = (zAnd (m' (q + 4) j) ((S : Int) - 1)).toNat
      rw [k4]
      by_cases z : j = i
      · rw [if_pos z, z, ep]
        rfl
      · rw [if_neg z]
theorem gl_loop {m0 : PM} (H : CS μ) (TS_ : TS μ q N P S) (hq : TQ q N P S) (hT : T ≤ N) (hTS : T < S) (hd : ∀ m' : PM, GI q S m' T → (∀ c j, ¬ (c = q + 5 ∨ c = q + 7) → m' c j = m0 c j) → Q (.inl none) (sA μ m' l)) : ∀ (f i : Nat) (m : PM) (o2 o3 : Option Value), i + f = T → GI q S m i → m 84 9 = (T : Int) → (∀ c j, ¬ (c = q + 5 ∨ c = q + 7) → m c j = m0 c j) → Wp d 93 (96, [some (.ref 84), some (.int (zI (i : Int))), o2, o3], [], sA μ m l) Q := by
  obtain ⟨kk, hkk, eS⟩ := TQ_k hq
  have hS : 0 < S := by omega
  have en : ∀ y : Nat, y < S → zAnd ((y : Int) + 1) ((S : Int) - 1) = (((y + 1) % S : Nat) : Int) := fun y hy => by
    have z := zAnd_nk kk hkk y (by rw [← eS]; exact hy)
    rw [← eS] at z
    exact z
  intro f
  induction f with
  | zero =>
    intro i m o2 o3 hi hG e9 hk
    have ei : i = T := by omega
    refine K93_96 H TS_ hq ⟨⟨by omega, by omega⟩, by rw [e9]; exact ⟨by omega, by omega⟩, fun _ => ?_, fun z => by omega⟩
    rw [ei] at hG
    exact hd m hG hk
  | succ f ih =>
    intro i m o2 o3 hi hG e9 hk
    refine K93_96 H TS_ hq ⟨⟨by omega, by omega⟩, by rw [e9]; exact ⟨by omega, by omega⟩, fun z => by omega, fun _ => ⟨⟨by omega, by omega⟩, ?_⟩⟩
    obtain ⟨t0, ht0, ep⟩ := zAnd_rk kk hkk (m (q + 4) (i : Int))
    rw [← eS] at ht0 ep
    rw [ep]
    rintro v1 rfl
    obtain ⟨mm, hm, hz, hnz⟩ := HT_first (HC_ht hG.2.2) (by omega) t0 ht0
    have h5 := hG.2.1
    have hz' : m (q + 7) (((t0 + mm) % S : Nat) : Int) = 0 := by
      have := h5 ((t0 + mm) % S) (Nat.mod_lt _ hS)
      have z : (m (q + 7) (((t0 + mm) % S : Nat) : Int)).toNat = 0 := hz
      omega
    have hnz' : ∀ m', m' < mm → ¬ m (q + 7) (((t0 + m') % S : Nat) : Int) = 0 := by
      intro m' hm' z
      exact hnz m' hm' (by show (m (q + 7) (((t0 + m') % S : Nat) : Int)).toNat = 0; rw [z]; rfl)
    have go : ∀ x3 : Int, ∀ m1 : PM, m1 = up (up m (q + 7) (((t0 + mm) % S : Nat) : Int) ((i : Int) + 1)) (q + 5) (i : Int) (((t0 + mm) % S : Nat) : Int) → Wp d 93 (96, [some (.ref 84), some (.int (zI ((i : Int) + 1))), some (.int (zI (((t0 + mm) % S : Nat) : Int))), some (.int (zI x3))], [], sA μ m1 l) Q := by
      intro x3 m1 e1
      have g1 : ∀ c j, ¬ (c = q + 5 ∨ c = q + 7) → m1 c j = m c j := fun c j z => by rw [e1, up_c (by omega), up_c (by omega)]
      refine ih (i + 1) m1 _ _ (by omega) (GI_add hS hG hm ep hz' hnz' e1) (by rw [g1 _ _ (by omega)]; exact e9) (fun c j z => (g1 c j z).trans (hk c j z))
    have loop : ∀ (r j : Nat), j + r = mm → Wp d 93 (121, [some (.ref 84), some (.int (zI (i : Int))), some (.int (zI (((t0 + j) % S : Nat) : Int))), some (.int (zI (j : Int)))], [], sA μ m l) Q := by
      intro r
      induction r with
      | zero =>
        intro j hj
        have ej : j = mm := by omega
        have hl := Nat.mod_lt (t0 + mm) hS
        rw [ej]
        refine K93_121 H TS_ hq ⟨⟨by omega, by omega⟩, ⟨by omega, by omega⟩, fun z => by omega, fun _ => ⟨⟨by omega, by omega⟩, by rw [hz']; exact ⟨by decide, by decide⟩, fun _ => ⟨⟨by omega, by omega⟩, go _⟩, fun z => absurd hz' z⟩⟩
      | succ r ihr =>
        intro j hj
        have hl := Nat.mod_lt (t0 + j) hS
        have hv := h5 ((t0 + j) % S) hl
        refine K93_121 H TS_ hq ⟨⟨by omega, by omega⟩, ⟨by omega, by omega⟩, fun z => by omega, fun _ => ⟨⟨by omega, by omega⟩, ⟨by omega, by omega⟩, fun z => absurd z (hnz' j (by omega)), fun _ => ?_⟩⟩
        rintro v3 e3
        rw [e3, en _ hl, Nat.mod_add_mod]
        exact ihr (j + 1) (by omega)
    have z := loop mm 0 (by omega)
    rw [Nat.add_zero, Nat.mod_eq_of_lt ht0] at z
    exact z
end CGL
/-- the lengths of the rows, by where they lie -/
def tN (q : Nat) : Nat := if q = 85 then 4096 else 58192
def tS (q : Nat) : Nat := if q = 85 then 8192 else 131072
theorem tN_85 : tN 85 = 4096 := rfl
theorem tS_85 : tS 85 = 8192 := rfl
theorem tN_g {q : Nat} (h : 185 ≤ q) : tN q = 58192 := if_neg (by omega)
theorem tS_g {q : Nat} (h : 185 ≤ q) : tS q = 131072 := if_neg (by omega)
theorem TQ_q {q : Nat} (h : q = 85 ∨ 185 ≤ q) : TQ q (tN q) (4 * tN q) (tS q) := by
  rcases h with h | h
  · exact ⟨Or.inl ⟨h, by rw [h, tN_85], by rw [h, tS_85]⟩, rfl⟩
  · exact ⟨Or.inr ⟨h, tN_g h, tS_g h⟩, rfl⟩
theorem tN_le (q : Nat) : tN q ≤ 58192 := by
  unfold tN
  split
  · decide
  · exact Nat.le_refl _
/-- the shape of the class at work: its terms' rows lie at q -/
def ShW (s : Nat) (μ : am_Mem) (q : Nat) : Prop := CS μ ∧ TS μ q (tN q) (4 * tN q) (tS q) ∧ (q = 85 ∨ 185 ≤ q) ∧ (185 ≤ am_n μ ∧ q + 8 ≤ am_n μ) ∧ am_F μ 70 2 = s ∧ am_F μ 84 0 = s + 1
/-- at most made anew -/
def Gw (μ : am_Mem) (q : Nat) (μ' : am_Mem) (q' : Nat) : Prop := (μ' = μ ∧ q' = q) ∨ (μ' = grM μ ∧ q = 85 ∧ q' = am_n μ)
theorem Gw_r {μ : am_Mem} {q : Nat} : Gw μ q μ q := Or.inl ⟨rfl, rfl⟩
theorem Gw_t {s : Nat} {μ μ1 μ2 : am_Mem} {q q1 q2 : Nat} (hS : ShW s μ q) (h : Gw μ q μ1 q1) (h' : Gw μ1 q1 μ2 q2) : Gw μ q μ2 q2 := by
  rcases h with ⟨e1, e2⟩ | ⟨e1, e2, e3⟩
  · rw [e1, e2] at h'
    exact h'
  · rcases h' with ⟨f1, f2⟩ | ⟨f1, f2, f3⟩
    · rw [f1, f2]
      exact Or.inr ⟨e1, e2, e3⟩
    · have := hS.2.2.2.1
      omega
theorem Gw_n {μ μ' : am_Mem} {q q' : Nat} (h : Gw μ q μ' q') : am_n μ ≤ am_n μ' := by
  rcases h with ⟨e1, _⟩ | ⟨e1, _⟩
  · rw [e1]
    exact Nat.le_refl _
  · rw [e1, grM_n]
    omega
theorem Gw_S {s : Nat} {μ μ' : am_Mem} {q q' : Nat} (hS : ShW s μ q) (h : Gw μ q μ' q') : ShW s μ' q' := by
  rcases h with ⟨e1, e2⟩ | ⟨e1, e2, e3⟩
  · rw [e1, e2]
    exact hS
  · obtain ⟨s1, s2, s3, s4, s5, s6⟩ := hS
    have hq' : 185 ≤ q' := by omega
    rw [e1]
    refine ⟨grM_C (by omega) s1, ?_, Or.inr hq', ?_, ?_, ?_⟩
    · rw [tN_g hq', tS_g hq', e3]
      exact grM_T μ
    · rw [grM_n]
      omega
    · rw [grM_F (by decide)]
      exact s5
    · rw [grM_F (by decide)]
      exact s6
/-- where q is or becomes: the cells of the rows -/
theorem Gw_q {s : Nat} {μ μ' : am_Mem} {q q' : Nat} (hS : ShW s μ q) (h : Gw μ q μ' q') : (q' = q ∨ (q = 85 ∧ q' = am_n μ)) ∧ am_n μ ≤ am_n μ' := ⟨by
  rcases h with ⟨_, e2⟩ | ⟨_, e2, e3⟩
  · exact Or.inl e2
  · exact Or.inr ⟨e2, e3⟩, Gw_n h⟩
section CGV
variable {d : Nat} {μ : am_Mem} {m l : PM} {Q : Option Value ⊕ Nat → am_Mem → Prop} {X : Int → List Int → Prop} {T : Nat}
theorem k_grow (H : CS μ) (T_ : TS μ 85 4096 16384 8192) (hn : 185 ≤ am_n μ) (hI : CtT X 85 4096 8192 m T)
    (h : ∀ m' l' : PM, CtT X (am_n μ) 58192 131072 m' T → (∀ c j, c < am_n μ → m' c j = m c j ∧ l' c j = l c j) → (∀ t cs, t < T → Cg X 85 m t cs → Cg X (am_n μ) m' t cs) → Q (.inl none) (sA (grM μ) m' l')) :
    Wp (d + 1) 93 (0, [some (.ref 84), none, none, none], [], sA μ m l) Q := by
  obtain ⟨⟨i1, i2, i3, i4, i5⟩, hU, hL⟩ := hI
  refine gw_a (cK_84 H) hn T_ (fun m1 l1 k1 k2 k3 k4 => ?_)
  have hq : TQ (am_n μ) 58192 232768 131072 := ⟨Or.inr ⟨hn, rfl, rfl⟩, rfl⟩
  have r0 : ∀ j : Int, j < 4096 → m1 (am_n μ) j = m 85 j := fun j hj => k2 0 (by decide) j hj
  have r1 : ∀ j : Int, j < 4096 → m1 (am_n μ + 1) j = m 86 j := fun j hj => k2 1 (by decide) j hj
  have r3 : ∀ j : Int, j < 4096 → m1 (am_n μ + 3) j = m 88 j := fun j hj => k2 3 (by decide) j hj
  have r4 : ∀ j : Int, j < 4096 → m1 (am_n μ + 4) j = m 89 j := fun j hj => k2 4 (by decide) j hj
  refine gl_loop (m0 := m1) (T := T) (grM_C (by omega) H) (grM_T μ) hq (by omega) (by omega) (fun m' g1 g2 => ?_) T 0 m1 none none (by omega) ⟨fun t ht => absurd ht (Nat.not_lt_zero t), fun p _ => by rw [k4]; exact ⟨Int.le_refl _, Int.le_refl _⟩, HC_0 _ _ _ (fun i _ => by show (m1 (am_n μ + 7) (i : Int)).toNat = 0; rw [k4]; rfl)⟩ (by rw [(k1 84 9 (by omega)).1]; exact i1) (fun _ _ _ => rfl)
  have c0 : ∀ t : Nat, t < T → m' (am_n μ) t = m 85 t := fun t ht => by rw [g2 _ _ (by omega), r0 _ (by omega)]
  have c1 : ∀ t : Nat, t < T → m' (am_n μ + 1) t = m 86 t := fun t ht => by rw [g2 _ _ (by omega), r1 _ (by omega)]
  have c2 : ∀ t : Nat, t < T → ∀ k : Nat, k < 4 → m' (am_n μ + 2) (4 * (t : Int) + k) = m 87 (4 * (t : Int) + k) := fun t ht k hk => by rw [g2 _ _ (by omega), k3 _ (by omega)]
  have c3 : ∀ t : Nat, t < T → m' (am_n μ + 3) t = m 88 t := fun t ht => by rw [g2 _ _ (by omega), r3 _ (by omega)]
  have c4 : ∀ t : Int, t < T → m' (am_n μ + 4) t = m 89 t := fun t ht => by rw [g2 _ _ (by omega), r4 _ (by omega)]
  have cg : ∀ t cs, t < T → Cg X 85 m t cs → Cg X (am_n μ) m' t cs := fun t cs ht hc => CgR_cg (q' := am_n μ) (T := T) (fun t ht => ⟨c0 t ht, c1 t ht, c2 t ht⟩) (t + 1) t cs ht hc
  have ic : ∀ (t : Nat) (x : Int) (ps : List Int), t < T → isC (am_n μ) m' t x ps → isC 85 m t x ps := by
    intro t x ps ht z
    obtain ⟨z1, z2, z3⟩ := z
    rw [c0 t ht] at z1
    rw [c1 t ht] at z2
    refine ⟨z1, z2, ?_⟩
    rw [← z3]
    have h4 : m 86 t ≤ 4 := (i3 t ht).2.1.2
    have z2' : m 86 t = (ps.length : Int) := z2
    rw [z3]
    refine Eq.trans (sl_eq.mpr ⟨rfl, fun j hj => (c2 t ht j (by omega)).symm⟩) z3
  refine h m' l1 ⟨⟨?_, by omega, fun t ht => ?_, g1.2.1, g1.2.2⟩, fun t t' x ps ht ht' a b => hU t t' x ps ht ht' (ic t x ps ht a) (ic t' x ps ht' b), fun t ht => ?_⟩ (fun c j hc => ?_) cg
  · rw [g2 _ _ (by omega), (k1 84 9 (by omega)).1]
    exact i1
  · obtain ⟨a1, a2, a3, a4, _, _⟩ := i3 t ht
    have a2' : 0 ≤ m 86 t ∧ m 86 t ≤ 4 := a2
    rw [c0 t ht, c1 t ht]
    refine ⟨a1, a2, fun k hk => ?_, ?_, g1.1 t ht⟩
    · have hk' : (k : Int) < m 86 t := hk
      rw [c2 t ht k (by omega)]
      exact a3 k hk
    · rw [c4 t (by omega)]
      have es : sl (m' (am_n μ + 2)) (4 * (t : Int)) (m 86 t).toNat = sl (m 87) (4 * (t : Int)) (m 86 t).toNat := sl_eq.mpr ⟨rfl, fun j hj => c2 t ht j (by omega)⟩
      rw [es]
      refine Eq.trans a4 (hcF_cg fun p hp => ?_)
      obtain ⟨j, hj, ej⟩ := mem_sl hp
      have hj' : j < (m 86 t).toNat := hj
      have a3' := a3 j (show (j : Int) < m 86 t by omega)
      have ej' : p = m (85 + 2) (4 * (t : Int) + j) := ej
      rw [← ej'] at a3'
      exact (c4 p (by omega)).symm
  · obtain ⟨cs, y1, y2⟩ := hL t ht
    exact ⟨cs, cg t cs ht y1, by rw [c3 t ht]; exact y2⟩
  · have hc' : ¬ (c = am_n μ + 5 ∨ c = am_n μ + 7) := by omega
    rw [g2 c j hc']
    exact k1 c j hc
end CGV
