/-! ===== the class's terms: intern whole, cut ===== -/
section CT2
variable {d : Nat} {μ : am_Mem} {m l : PM} {Q : Option Value ⊕ Nat → am_Mem → Prop} {x : Int} {c T q N P S a : Nat}
theorem k_tint (H : CS μ) (TS_ : TS μ q N P S) (hq : TQ q N P S) (ha : a = 23 ∨ a = 43) (h0 : am_F μ 84 0 = a) (hI : CtI q N S m T) (hT : T < N) (hx : 0 ≤ x ∧ x < 1024) (hc : c ≤ 4) (hps : ∀ k : Nat, k < c → 0 ≤ m 93 k ∧ m 93 k < (T : Int))
    (hf : ∀ t : Nat, t < T → isC q m t x (sl (m 93) 0 c) → Q (.inl (some (.int (zI (t : Int))))) (sA μ m l))
    (hn : (∀ t : Nat, t < T → ¬ isC q m t x (sl (m 93) 0 c)) → ∀ m' : PM, CtI q N S m' (T + 1) → isC q m' T x (sl (m 93) 0 c) → m' (q + 3) T = (m (a + 3) (x + 1) - m (a + 3) x) + (if ¬ (c : Int) = 0 then 2 + (c : Int) else 0) + plC q m c → (∀ c j, ¬ WCt q T c j → m' c j = m c j) → Q (.inl (some (.int (zI (T : Int))))) (sA μ m' l)) :
    Wp d 91 (0, [some (.ref 84), some (.int (zI x)), some (.int (zI (c : Int))), none, none, none, none, none], [], sA μ m l) Q := by
  obtain ⟨kk, hkk, eS⟩ := TQ_k hq
  have hS : 0 < S := by omega
  obtain ⟨t0, ht0, ep⟩ := zAnd_rk kk hkk (hcF (m (q + 4)) x (sl (m 93) 0 c))
  rw [← eS] at ht0 ep
  have en : ∀ y : Nat, y < S → zAnd ((y : Int) + 1) ((S : Int) - 1) = (((y + 1) % S : Nat) : Int) := fun y hy => by
    have z := zAnd_nk kk hkk y (by rw [← eS]; exact hy)
    rw [← eS] at z
    exact z
  obtain ⟨e9, _, h4, h5, h6⟩ := id hI
  obtain ⟨mm, hm, hz, hnz⟩ := HT_first (HC_ht h6) (by omega) t0 ht0
  have hz' : m (q + 7) (((t0 + mm) % S : Nat) : Int) = 0 := by
    have := h5 ((t0 + mm) % S) (Nat.mod_lt _ hS)
    have z : (m (q + 7) (((t0 + mm) % S : Nat) : Int)).toNat = 0 := hz
    omega
  have hnz' : ∀ m', m' < mm → ¬ m (q + 7) (((t0 + m') % S : Nat) : Int) = 0 := by
    intro m' hm' z
    exact hnz m' hm' (by show (m (q + 7) (((t0 + m') % S : Nat) : Int)).toNat = 0; rw [z]; rfl)
  have hR4 : ∀ t : Nat, t < T → iR (m (q + 4) t) := fun t ht => by
    rw [(h4 t ht).2.2.2.1]
    exact zXor_R _ _
  have loop : ∀ (r i : Nat) (o6 o7 : Option Value), i + r = mm → (∀ m', m' < i → ∀ k : Nat, m (q + 7) (((t0 + m') % S : Nat) : Int) = (k : Int) + 1 → ¬ isC q m k x (sl (m 93) 0 c)) → Wp d 91 (66, [some (.ref 84), some (.int (zI x)), some (.int (zI (c : Int))), some (.int (zI (hcF (m (q + 4)) x (sl (m 93) 0 c)))), some (.int (zI (((t0 + i) % S : Nat) : Int))), some (.int (zI (i : Int))), o6, o7], [], sA μ m l) Q := by
    intro r
    induction r with
    | zero =>
      intro i o6 o7 hi hno
      have ei : i = mm := by omega
      rw [ei] at hno ⊢
      have hall : ∀ t : Nat, t < T → ¬ isC q m t x (sl (m 93) 0 c) := by
        intro k hk z
        have hpl : (fun k : Nat => (zAnd (m (q + 4) k) ((S : Int) - 1)).toNat) k = t0 := by
          show (zAnd (m (q + 4) k) ((S : Int) - 1)).toNat = t0
          rw [(h4 k hk).2.2.2.1, (isC_key z).1, (isC_key z).2, ep]
          rfl
        obtain ⟨m', g1, g2⟩ := HT_before (HC_ht h6) hk hpl hz
        refine hno m' g1 k ?_ z
        have g2' : (m (q + 7) (((t0 + m') % S : Nat) : Int)).toNat = k + 1 := g2
        omega
      have hl := Nat.mod_lt (t0 + mm) hS
      have go : Wp d 91 (196, [some (.ref 84), some (.int (zI x)), some (.int (zI (c : Int))), some (.int (zI (hcF (m (q + 4)) x (sl (m 93) 0 c)))), some (.int (zI (((t0 + mm) % S : Nat) : Int))), some (.int (zI (mm : Int))), o6, o7], [], sA μ m l) Q := by
        refine K91_196 H TS_ hq ha h0 ⟨⟨by omega, by omega⟩, ⟨by omega, by omega⟩, ⟨by omega, by omega⟩, ?_⟩
        rintro v1 e1 v2 e2
        have z := ti_234 (d := d) (l := l) (Q := Q) (x := x) (m := m) (c := c) (T := T) (x3 := hcF (m (q + 4)) x (sl (m 93) 0 c)) (x4 := (((t0 + mm) % S : Nat) : Int)) (b := v1 + v2) H TS_ hq ha h0 hc hT e9 ⟨by omega, by omega⟩ hps (fun m' y1 y2 y3 y4 y5 y6 y7 y8 y9 y10 => ?_) c 0 m o7 (by omega) (fun _ _ _ => rfl) (fun k hk => absurd hk (Nat.not_lt_zero k))
        · have e0 : v1 + v2 + plC q m 0 = v1 + v2 := Int.add_zero _
          rw [e0] at z
          exact z
        · obtain ⟨w1, w2⟩ := CtI_new (x := x) (c := c) hq hI hT hx hc hps hm ep hz' hnz' y1 y2 y3 y4 y6 y7 y8 y9 y10
          exact hn hall m' w1 w2 (by rw [y5, e1, e2]) y1
      refine K91_66 H TS_ hq ha h0 ⟨⟨by omega, by omega⟩, ⟨by omega, by omega⟩, fun _ => go, fun _ => ⟨⟨by omega, by omega⟩, by rw [hz']; exact ⟨by decide, by decide⟩, fun _ => go, fun z => absurd hz' z⟩⟩
    | succ r ih =>
      intro i o6 o7 hi hno
      have hl := Nat.mod_lt (t0 + i) hS
      have hv := h5 ((t0 + i) % S) hl
      have hv0 := hnz' i (by omega)
      obtain ⟨k, ek⟩ : ∃ k : Nat, m (q + 7) (((t0 + i) % S : Nat) : Int) = (k : Int) + 1 := ⟨(m (q + 7) (((t0 + i) % S : Nat) : Int) - 1).toNat, by omega⟩
      have hk : k < T := by omega
      obtain ⟨a1, a2, a3, a4, a5, a6⟩ := h4 k hk
      have next : ¬ isC q m k x (sl (m 93) 0 c) → ∀ v : Int, v = zAnd ((((t0 + i) % S : Nat) : Int) + 1) ((S : Int) - 1) → ∀ o6 o7 : Option Value, Wp d 91 (66, [some (.ref 84), some (.int (zI x)), some (.int (zI (c : Int))), some (.int (zI (hcF (m (q + 4)) x (sl (m 93) 0 c)))), some (.int (zI v)), some (.int (zI ((i : Int) + 1))), o6, o7], [], sA μ m l) Q := by
        intro hno2 v ev o6 o7
        rw [en _ hl, Nat.mod_add_mod] at ev
        rw [ev]
        refine ih (i + 1) o6 o7 (by omega) (fun m' hm' k' ek' => ?_)
        by_cases w : m' = i
        · rw [w] at ek'
          have : k' = k := by omega
          rw [this]
          exact hno2
        · exact hno m' (by omega) k' ek'
      refine K91_66 H TS_ hq ha h0 ⟨⟨by omega, by omega⟩, ⟨by omega, by omega⟩, fun z => by omega, fun _ => ⟨⟨by omega, by omega⟩, ⟨by omega, by omega⟩, fun z => absurd z hv0, fun _ => ?_⟩⟩
      rw [ek, show (k : Int) + 1 - 1 = (k : Int) by omega]
      refine ⟨⟨by omega, by omega⟩, hR4 k hk, zXor_R _ _, fun z => ?_, fun z => ⟨⟨by omega, by omega⟩, ⟨by omega, by omega⟩, fun z1 => ?_, fun z1 => ⟨⟨by omega, by omega⟩, ⟨by omega, by omega⟩, fun z2 => ?_, fun z2 => ?_⟩⟩⟩
      · rintro v1 ev
        refine next (fun y => z ?_) v1 ev _ _
        rw [a4, (isC_key y).1, (isC_key y).2]
      · rintro v2 ev
        exact next (fun y => z1 y.1) v2 ev _ _
      · rintro v3 ev
        exact next (fun y => z2 (by rw [y.2.1, sl_len])) v3 ev _ _
      · have ex : m q (k : Int) = x := Classical.byContradiction z1
        have ec : m (q + 1) (k : Int) = (c : Int) := Classical.byContradiction z2
        have z := ti_133 (d := d) (l := l) (Q := Q) (x := x) (m := m) (c := c) (T := T) (k := k) (x3 := hcF (m (q + 4)) x (sl (m 93) 0 c)) (x4 := (((t0 + i) % S : Nat) : Int)) (x5 := (i : Int)) H TS_ hq ha h0 hI hk hc ec hps (fun hs => ?_) (fun j hj hne v ev o7 => ?_) c 0 (by omega) (fun i hi => absurd hi (Nat.not_lt_zero i))
        · exact z
        · refine hf k hk ⟨ex, by rw [sl_len]; exact ec, ?_⟩
          rw [sl_len]
          exact sl_eq.mpr ⟨rfl, fun j hj => by rw [hs j hj]; congr 1; omega⟩
        · refine next (fun y => hne ?_) v ev _ _
          have y3 := y.2.2
          rw [sl_len] at y3
          have := (sl_eq.mp y3).2 j hj
          rw [this]
          congr 1
          omega
  refine K91_0 H TS_ hq ha h0 ?_
  rintro v1 ev
  have z := ti_10 (d := d) (l := l) (Q := Q) (x := x) (m := m) (c := c) (T := T) H TS_ hq ha h0 hc (by omega) hps (fun v e => ?_) c 0 (by omega)
  · have e : hcN (m (q + 4)) x c (sl (m 93) 0 0) = v1 := by rw [ev]; rfl
    rw [e] at z
    exact z
  · rw [e, ep]
    have e0 : (t0 : Int) = (((t0 + 0) % S : Nat) : Int) := by rw [Nat.add_zero, Nat.mod_eq_of_lt ht0]
    rw [e0]
    exact loop mm 0 none none (by omega) (fun m' hm' => absurd hm' (Nat.not_lt_zero m'))
/-- the latest term is dropped -/
theorem CtI_cut {m' : PM} (hq : TQ q N P S) (hI : CtI q N S m (T + 1)) (k : ∀ c j, ¬ (c = q + 7 ∨ (c = 84 ∧ j = 9)) → m' c j = m c j) (e9 : m' 84 9 = (T : Int)) (e7 : m' (q + 7) (m (q + 5) (T : Int)) = 0) (k7 : ∀ i, ¬ i = m (q + 5) (T : Int) → m' (q + 7) i = m (q + 7) i) : CtI q N S m' T := by
  have hS : 0 < S := by omega
  obtain ⟨h1, h2, h4, h5, h6⟩ := hI
  obtain ⟨b1, b2, b3, b4, b5, b6⟩ := h4 T (by omega)
  have f : ∀ c j, (c = q ∨ c = q + 1 ∨ c = q + 2 ∨ c = q + 4 ∨ c = q + 5) → m' c j = m c j := fun c j hc => k c j (by omega)
  have f4 : m' (q + 4) = m (q + 4) := funext fun j => f _ j (by omega)
  have f2 : m' (q + 2) = m (q + 2) := funext fun j => f _ j (by omega)
  refine ⟨e9, by omega, fun t ht => ?_, fun i hi => ?_, ?_⟩
  · obtain ⟨a1, a2, a3, a4, a5, a6⟩ := h4 t (by omega)
    rw [f q _ (by omega), f (q + 1) _ (by omega), f2, f4, f (q + 5) _ (by omega)]
    refine ⟨a1, a2, a3, a4, a5, ?_⟩
    rw [k7 _ (fun w => by rw [w, b6] at a6; omega)]
    exact a6
  · have := h5 i hi
    by_cases z : (i : Int) = m (q + 5) (T : Int)
    · rw [z, e7]
      omega
    · rw [k7 _ z]
      have hne : ¬ m (q + 7) (i : Int) = ((T + 1 : Nat) : Int) := fun w => by
        have := h6.2.2 i (m (q + 5) (T : Int)).toNat hi (by omega) (by
          show (m (q + 7) (i : Int)).toNat = (m (q + 7) (((m (q + 5) (T : Int)).toNat : Nat) : Int)).toNat
          rw [w, show (((m (q + 5) (T : Int)).toNat : Nat) : Int) = m (q + 5) (T : Int) by omega, b6]
          omega) (by
          show ¬ (m (q + 7) (i : Int)).toNat = 0
          rw [w]
          omega)
        omega
      omega
  · refine HC_cg hS (fun i hi => ?_) (fun j hj => ?_) (HC_cut (p := (m (q + 5) (T : Int)).toNat) hS h6 (by omega) ?_)
    · show (if i = (m (q + 5) (T : Int)).toNat then 0 else (m (q + 7) i).toNat) = (m' (q + 7) i).toNat
      by_cases z : i = (m (q + 5) (T : Int)).toNat
      · rw [if_pos z, show (i : Int) = m (q + 5) (T : Int) by omega, e7]
        rfl
      · rw [if_neg z, k7 _ (by omega)]
    · show (zAnd (m (q + 4) j) ((S : Int) - 1)).toNat = (zAnd (m' (q + 4) j) ((S : Int) - 1)).toNat
      rw [f4]
    · show (m (q + 7) (((m (q + 5) (T : Int)).toNat : Nat) : Int)).toNat = T + 1
      rw [show (((m (q + 5) (T : Int)).toNat : Nat) : Int) = m (q + 5) (T : Int) by omega, b6]
      omega
/-- all terms from a mark on are dropped -/
theorem k_tcut {m0 : PM} {M : Nat} (H : CS μ) (TS_ : TS μ q N P S) (hq : TQ q N P S) (hI : CtI q N S m0 T) (hM : M ≤ T) : Wp d 90 (0, [some (.ref 84), some (.int (zI (M : Int))), none], [], sA μ m0 l) (pV (fun μ' => ∃ m', μ' = sA μ m' l ∧ CtI q N S m' M ∧ ∀ c j, ¬ (c = q + 7 ∨ (c = 84 ∧ j = 9)) → m' c j = m0 c j) noX) := by
  have hT := hI.2.1
  have loop : ∀ (f : Nat) (m : PM), M + f ≤ T → CtI q N S m (M + f) → (∀ c j, ¬ (c = q + 7 ∨ (c = 84 ∧ j = 9)) → m c j = m0 c j) → Wp d 90 (7, [some (.ref 84), some (.int (zI (M : Int))), some (.int (zI (((M + f : Nat) : Int) - 1)))], [], sA μ m l) (pV (fun μ' => ∃ m', μ' = sA μ m' l ∧ CtI q N S m' M ∧ ∀ c j, ¬ (c = q + 7 ∨ (c = 84 ∧ j = 9)) → m' c j = m0 c j) noX) := by
    intro f
    induction f with
    | zero =>
      intro m hf hI g
      refine K90_7 H TS_ hq ⟨⟨by omega, by omega⟩, ⟨by omega, by omega⟩, fun _ => ⟨m, rfl, hI, g⟩, fun z => by omega⟩
    | succ f ih =>
      intro m hf hI g
      have hh := (hI.2.2.1 (M + f) (by omega)).2.2.2.2.1
      have et : (((M + (f + 1) : Nat) : Int) - 1) = ((M + f : Nat) : Int) := by omega
      rw [et]
      refine K90_7 H TS_ hq ⟨⟨by omega, by omega⟩, ⟨by omega, by omega⟩, fun z => by omega, fun _ => ⟨⟨by omega, by omega⟩, hh, ?_⟩⟩
      rintro m1 e1
      have f1 : ∀ c j, ¬ (c = q + 7 ∨ (c = 84 ∧ j = 9)) → m1 c j = m c j := fun c j z => by rw [e1, up_o (by omega), up_o (by omega)]
      have hI1 : CtI q N S m1 (M + f) := CtI_cut hq (show CtI q N S m (M + f + 1) from hI) f1 (by rw [e1, up_s]) (by rw [e1, up_c (by omega), up_s]) (fun i z => by rw [e1, up_c (by omega), up_i z])
      exact ih m1 (by omega) hI1 (fun c j z => by rw [f1 c j z]; exact g c j z)
  refine K90_0 H TS_ hq ?_
  rw [hI.1]
  have z := loop (T - M) m0 (by omega) (by rw [show M + (T - M) = T by omega]; exact hI) (fun _ _ _ => rfl)
  rw [show M + (T - M) = T by omega] at z
  exact z
end CT2
