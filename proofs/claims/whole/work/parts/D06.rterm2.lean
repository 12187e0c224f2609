/-! ===== the reference's terms: the table, term ===== -/
/-- the table of terms: T of them -/
def TtI (m : PM) (T : Nat) : Prop := m 125 42 = (T : Int) ∧ T ≤ 130000 ∧ (∀ j, iR (m 151 j)) ∧ (∀ t : Nat, t < T → (0 ≤ m 149 t ∧ m 149 t < 1100) ∧ (0 ≤ m 150 t ∧ m 150 t ≤ 4) ∧ ∀ k : Nat, (k : Int) < m 150 t → 0 ≤ m 151 (4 * (t : Int) + k) ∧ m 151 (4 * (t : Int) + k) < (t : Int)) ∧ (∀ i : Nat, i < 262144 → 0 ≤ m 153 i ∧ m 153 i ≤ (T : Int)) ∧ HT 262144 (fun i => (m 153 i).toNat) (fun k => (spT (m 149 k) (sl (m 151) (4 * (k : Int)) (m 150 k).toNat)).toNat) T
/-- how long the parts' texts are, with a space before each -/
def plS (m : PM) (b : Int) : Nat → Int
  | 0 => 0
  | j + 1 => plS m b j + 1 + m 152 (m 151 (b + j))
/-- the memory with a new term -/
def tmN (m : PM) (T : Nat) (x : Int) (c : Nat) (q len : Int) : PM := up (up (up (up (up m 153 q ((T : Int) + 1)) 149 T x) 150 T c) 152 T len) 125 42 ((T : Int) + 1)
theorem tmN_o {m : PM} {T : Nat} {x q len : Int} {c : Nat} {c' : Nat} {j : Int} (h : ¬ (c' = 153 ∨ ((c' = 149 ∨ c' = 150 ∨ c' = 152) ∧ j = T) ∨ (c' = 125 ∧ j = 42))) : tmN m T x c q len c' j = m c' j := by
  unfold tmN
  rw [up_o (by omega), up_o (by omega), up_o (by omega), up_o (by omega), up_o (by omega)]
section RT2
variable {d : Nat} {μ : am_Mem} {m l : PM} {Q : Option Value ⊕ Nat → am_Mem → Prop} {x p : Int} {c T : Nat}
theorem isT_key {k : Nat} {ps : List Int} (h : isT m k x ps) : m 149 k = x ∧ sl (m 151) (4 * (k : Int)) (m 150 k).toNat = ps := by
  obtain ⟨h1, h2, h3⟩ := h
  refine ⟨h1, ?_⟩
  rw [h2]
  exact h3
theorem tmN_I {t0 mm : Nat} {len : Int} (hI : TtI m T) (hT : T < 130000) (hx : 0 ≤ x ∧ x < 1100) (hc : c ≤ 4) (hps : ∀ k : Nat, k < c → 0 ≤ m 151 (4 * (T : Int) + k) ∧ m 151 (4 * (T : Int) + k) < (T : Int)) (h0 : t0 < 262144) (hm : mm < 262144) (ep : spT x (sl (m 151) (4 * (T : Int)) c) = (t0 : Int)) (hz : m 153 (((t0 + mm) % 262144 : Nat) : Int) = 0) (hnz : ∀ m', m' < mm → ¬ m 153 (((t0 + m') % 262144 : Nat) : Int) = 0) :
    TtI (tmN m T x c (((t0 + mm) % 262144 : Nat) : Int) len) (T + 1) ∧ isT (tmN m T x c (((t0 + mm) % 262144 : Nat) : Int) len) T x (sl (m 151) (4 * (T : Int)) c) ∧ tmN m T x c (((t0 + mm) % 262144 : Nat) : Int) len 152 T = len := by
  obtain ⟨h1, h2, h3, h4, h5, h6⟩ := hI
  generalize eg : tmN m T x c (((t0 + mm) % 262144 : Nat) : Int) len = g
  have k : ∀ (c' : Nat) (j : Int), ¬ (c' = 153 ∨ ((c' = 149 ∨ c' = 150 ∨ c' = 152) ∧ j = T) ∨ (c' = 125 ∧ j = 42)) → g c' j = m c' j := fun c' j h => by rw [← eg]; exact tmN_o h
  have g151 : g 151 = m 151 := funext fun j => k _ _ (by omega)
  have g42 : g 125 42 = (T : Int) + 1 := by rw [← eg]; unfold tmN; rw [up_s]
  have g149 : g 149 (T : Int) = x := by rw [← eg]; unfold tmN; rw [up_c (by decide), up_c (by decide), up_c (by decide), up_s]
  have g150 : g 150 (T : Int) = (c : Int) := by rw [← eg]; unfold tmN; rw [up_c (by decide), up_c (by decide), up_s]
  have g152 : g 152 (T : Int) = len := by rw [← eg]; unfold tmN; rw [up_c (by decide), up_s]
  have g153 : ∀ i : Int, g 153 i = if i = (((t0 + mm) % 262144 : Nat) : Int) then (T : Int) + 1 else m 153 i := by
    intro i
    rw [← eg]
    unfold tmN
    rw [up_c (by decide), up_c (by decide), up_c (by decide), up_c (by decide)]
    split
    · rename_i q
      rw [q, up_s]
    · rename_i q
      rw [up_i q]
  refine ⟨⟨by rw [g42]; omega, by omega, fun j => by rw [g151]; exact h3 j, fun t ht => ?_, fun i hi => ?_, ?_⟩, ⟨g149, by rw [g150, sl_len], by rw [g151, sl_len]⟩, g152⟩
  · rw [g151]
    by_cases q : t = T
    · rw [q, g149, g150]
      exact ⟨hx, ⟨by omega, by omega⟩, fun k hk => hps k (by omega)⟩
    · rw [k 149 t (by omega), k 150 t (by omega)]
      exact h4 t (by omega)
  · rw [g153]
    have := h5 i hi
    split <;> omega
  · refine HT_congr (by decide) (fun i hi => ?_) (fun j hj => ?_) (HT_add h6 (t := t0) (m := mm) (by decide) hm (by show (m 153 (((t0 + mm) % 262144 : Nat) : Int)).toNat = 0; rw [hz]; rfl) (fun m' hm' z => hnz m' hm' (by
      have z' : (m 153 (((t0 + m') % 262144 : Nat) : Int)).toNat = 0 := z
      have := h5 ((t0 + m') % 262144) (Nat.mod_lt _ (by decide))
      omega)))
    · show (if i = (t0 + mm) % 262144 then T + 1 else (m 153 i).toNat) = (g 153 i).toNat
      rw [g153]
      by_cases z : i = (t0 + mm) % 262144
      · rw [if_pos z, if_pos (by rw [z])]
        omega
      · rw [if_neg z, if_neg (show ¬ ((i : Nat) : Int) = (((t0 + mm) % 262144 : Nat) : Int) by omega)]
    · show (if j = T then t0 else (spT (m 149 j) (sl (m 151) (4 * (j : Int)) (m 150 j).toNat)).toNat) = (spT (g 149 j) (sl (g 151) (4 * (j : Int)) (g 150 j).toNat)).toNat
      rw [g151]
      by_cases z : j = T
      · rw [if_pos z, z, g149, g150, show ((c : Int)).toNat = c from rfl, ep]
        rfl
      · rw [if_neg z, k 149 j (by omega), k 150 j (by omega)]
theorem tm_128 {m0 : PM} {q a : Int} (H : RS μ) (hT : T < 130000) (h42 : m0 125 42 = (T : Int)) (hc : c ≤ 4) (hps : ∀ k : Nat, k < c → 0 ≤ m0 151 (4 * (T : Int) + k) ∧ m0 151 (4 * (T : Int) + k) < (T : Int)) (hq : Q (.inl (some (.int (zI (T : Int))))) (sA μ (up (up m0 152 T (a + plS m0 (4 * (T : Int)) c)) 125 42 ((T : Int) + 1)) l)) : ∀ (f j : Nat), j + f = c → Wp (d + 1) 205 (128, [some (.ref 125), some (.int (zI x)), some (.int (zI (c : Int))), some (.int (zI p)), some (.int (zI (4 * (T : Int)))), some (.int (zI q)), some (.int (zI (a + plS m0 (4 * (T : Int)) j))), some (.int (zI (j : Int)))], [], sA μ m0 l) Q := by
  intro f
  induction f with
  | zero =>
    intro j hj
    have ej : j = c := by omega
    refine R205_128 H ⟨⟨by omega, by omega⟩, ⟨by omega, by omega⟩, fun _ => ⟨⟨by omega, by omega⟩, ?_⟩, fun z => by omega⟩
    rintro m1 rfl
    rw [h42, ej, show ((T : Int) + 1) - 1 = (T : Int) by omega]
    exact hq
  | succ f ih =>
    intro j hj
    have hp := hps j (by omega)
    refine R205_128 H ⟨⟨by omega, by omega⟩, ⟨by omega, by omega⟩, fun z => by omega, fun _ => ⟨⟨by omega, by omega⟩, ⟨hp.1, by omega⟩, ?_⟩⟩
    rintro v2 e2
    have z := ih (j + 1) (by omega)
    have e : a + plS m0 (4 * (T : Int)) (j + 1) = v2 := by
      rw [e2]
      show a + (plS m0 (4 * (T : Int)) j + 1 + m0 152 (m0 151 (4 * (T : Int) + j))) = _
      omega
    rw [e] at z
    exact z
theorem c_term (H : RS μ) (hI : TtI m T) (hT : T < 130000) (hx : 0 ≤ x ∧ x < 1100) (hc : c ≤ 4) (hps : ∀ k : Nat, k < c → 0 ≤ m 151 (4 * (T : Int) + k) ∧ m 151 (4 * (T : Int) + k) < (T : Int)) (hp : p = 0 ∨ p = 1)
    (hf : ∀ t : Nat, t < T → isT m t x (sl (m 151) (4 * (T : Int)) c) → Q (.inl (some (.int (zI (t : Int))))) (sA μ m l))
    (ho : p = 0 → (∀ t : Nat, t < T → ¬ isT m t x (sl (m 151) (4 * (T : Int)) c)) → Q (.inl (some (.int (zI (-1))))) (sA μ m l))
    (hn : p = 1 → (∀ t : Nat, t < T → ¬ isT m t x (sl (m 151) (4 * (T : Int)) c)) → ∀ m' : PM, TtI m' (T + 1) → isT m' T x (sl (m 151) (4 * (T : Int)) c) → m' 152 T = m 130 x + (if (c : Int) ≤ 0 then (0 : Int) else 2) + plS m (4 * (T : Int)) c → (∀ (c' : Nat) (j : Int), ¬ (c' = 153 ∨ ((c' = 149 ∨ c' = 150 ∨ c' = 152) ∧ j = T) ∨ (c' = 125 ∧ j = 42)) → m' c' j = m c' j) → Q (.inl (some (.int (zI (T : Int))))) (sA μ m' l)) :
    Wp (d + 1) 205 (0, [some (.ref 125), some (.int (zI x)), some (.int (zI (c : Int))), some (.int (zI p)), none, none, none, none], [], sA μ m l) Q := by
  have h42 := hI.1
  obtain ⟨t0, h0, et⟩ := zAnd_r18 (zXor (hsT x (sl (m 151) (4 * (T : Int)) c).length (sl (m 151) (4 * (T : Int)) c)) (zUsh (hsT x (sl (m 151) (4 * (T : Int)) c).length (sl (m 151) (4 * (T : Int)) c)) 15))
  have ep : spT x (sl (m 151) (4 * (T : Int)) c) = (t0 : Int) := et
  obtain ⟨_, h2, h3, h4, h5, h6⟩ := id hI
  obtain ⟨mm, hm, hz, hnz⟩ := HT_first h6 (by omega) t0 h0
  have hz' : m 153 (((t0 + mm) % 262144 : Nat) : Int) = 0 := by
    have := h5 ((t0 + mm) % 262144) (Nat.mod_lt _ (by decide))
    have z : (m 153 (((t0 + mm) % 262144 : Nat) : Int)).toNat = 0 := hz
    omega
  have hnz' : ∀ m', m' < mm → ¬ m 153 (((t0 + m') % 262144 : Nat) : Int) = 0 := by
    intro m' hm' z
    exact hnz m' hm' (by show (m 153 (((t0 + m') % 262144 : Nat) : Int)).toNat = 0; rw [z]; rfl)
  have loop : ∀ (r i : Nat) (o6 : Option Value), i + r = mm → (∀ m', m' < i → ∀ k : Nat, m 153 (((t0 + m') % 262144 : Nat) : Int) = (k : Int) + 1 → ¬ isT m k x (sl (m 151) (4 * (T : Int)) c)) → Wp (d + 1) 205 (18, [some (.ref 125), some (.int (zI x)), some (.int (zI (c : Int))), some (.int (zI p)), some (.int (zI (4 * (T : Int)))), some (.int (zI (((t0 + i) % 262144 : Nat) : Int))), o6, none], [], sA μ m l) Q := by
    intro r
    induction r with
    | zero =>
      intro i o6 hi hno
      have ei : i = mm := by omega
      rw [ei] at hno ⊢
      have hall : ∀ t : Nat, t < T → ¬ isT m t x (sl (m 151) (4 * (T : Int)) c) := by
        intro k hk z
        have hpl : (fun k : Nat => (spT (m 149 k) (sl (m 151) (4 * (k : Int)) (m 150 k).toNat)).toNat) k = t0 := by
          show (spT (m 149 k) (sl (m 151) (4 * (k : Int)) (m 150 k).toNat)).toNat = t0
          rw [(isT_key z).1, (isT_key z).2, ep]
          rfl
        obtain ⟨m', g1, g2⟩ := HT_before h6 hk hpl hz
        refine hno m' g1 k ?_ z
        have g2' : (m 153 (((t0 + m') % 262144 : Nat) : Int)).toNat = k + 1 := g2
        omega
      have hl := Nat.mod_lt (t0 + mm) (show 0 < 262144 by decide)
      refine R205_18 H ⟨⟨by omega, by omega⟩, by rw [hz']; exact ⟨by decide, by decide⟩, fun _ => ⟨⟨by omega, by omega⟩, fun q => ⟨⟨by omega, by omega⟩, ?_⟩, fun q => ho (by omega) hall⟩, fun q => absurd (by rw [hz']; decide) q⟩
      rintro m1 e1
      refine ⟨hx, ⟨by omega, by omega⟩, ?_⟩
      rintro m2 e2 v3 e3
      rw [h42] at e1 e2
      have k2 : ∀ c' j, ¬ (c' = 153 ∨ c' = 149 ∨ c' = 150) → m2 c' j = m c' j := fun c' j h => by rw [e2, up_c (by omega), e1, up_c (by omega), up_c (by omega)]
      have ePl : ∀ j, plS m2 (4 * (T : Int)) j = plS m (4 * (T : Int)) j := by
        intro j
        induction j with
        | zero => rfl
        | succ j ih =>
          show plS m2 (4 * (T : Int)) j + 1 + m2 152 (m2 151 _) = plS m (4 * (T : Int)) j + 1 + m 152 (m 151 _)
          rw [ih, k2 151 _ (by omega), k2 152 _ (by omega)]
      obtain ⟨n1, n2, n3⟩ := tmN_I (m := m) (x := x) (c := c) (len := m 130 x + v3 + plS m (4 * (T : Int)) c) hI hT hx hc hps h0 hm ep hz' hnz'
      have eN : up (up m2 152 T (m 130 x + v3 + plS m2 (4 * (T : Int)) c)) 125 42 ((T : Int) + 1) = tmN m T x c (((t0 + mm) % 262144 : Nat) : Int) (m 130 x + v3 + plS m (4 * (T : Int)) c) := by
        rw [ePl, e2, e1]
        rfl
      have z := tm_128 (d := d) (l := l) (Q := Q) (x := x) (p := p) (m0 := m2) (c := c) (T := T) (a := m 130 x + v3) (q := (((t0 + mm) % 262144 : Nat) : Int)) H hT (by rw [k2 _ _ (by omega)]; exact h42) hc (fun k hk => by rw [k2 _ _ (by omega)]; exact hps k hk) (by
        rw [eN]
        exact hn (by omega) hall _ n1 n2 (by rw [n3, e3]) (fun c' j h => tmN_o h)) c 0 (by omega)
      have ez : m 130 x + v3 + plS m2 (4 * (T : Int)) 0 = m 130 x + v3 := Int.add_zero _
      rw [ez] at z
      exact z
    | succ r ih =>
      intro i o6 hi hno
      have hl := Nat.mod_lt (t0 + i) (show 0 < 262144 by decide)
      have hv := h5 ((t0 + i) % 262144) hl
      have hv0 := hnz' i (by omega)
      refine R205_18 H ⟨⟨by omega, by omega⟩, ⟨by omega, by omega⟩, fun q => by omega, fun _ => ?_⟩
      obtain ⟨k, ek⟩ : ∃ k : Nat, m 153 (((t0 + i) % 262144 : Nat) : Int) = (k : Int) + 1 := ⟨(m 153 (((t0 + i) % 262144 : Nat) : Int) - 1).toNat, by omega⟩
      have hk : k < T := by omega
      have hk4 := h4 k hk
      rw [ek, show (k : Int) + 1 - 1 = (k : Int) by omega]
      refine ⟨_, _, c_isTerm (t := (k : Int)) (x := x) (b := 4 * (T : Int)) (c := c) H ⟨by omega, by omega⟩ hc ⟨by omega, by omega⟩ h3 ⟨by omega, by omega⟩ ⟨by omega, by omega⟩ ⟨by omega, by omega⟩, fun y μ' hy => ?_, fun _ _ z => z.elim⟩
      obtain ⟨rfl, rfl⟩ := hy
      refine R205_49 H ⟨bP_R _, fun q => ?_, fun q => ?_⟩
      · rw [zAnd_n18 _ hl]
        have en : (((t0 + i) % 262144 + 1) % 262144 : Nat) = (t0 + (i + 1)) % 262144 := by omega
        rw [en]
        refine ih (i + 1) _ (by omega) (fun m' hm' k' ek' => ?_)
        by_cases w : m' = i
        · rw [w] at ek'
          have : k' = k := by omega
          rw [this]
          exact bP_z.mp q
        · exact hno m' (by omega) k' ek'
      · exact hf k hk (Classical.byContradiction fun w => q (bP_0 w))
  refine R205_0 H ?_
  rw [h42]
  refine ⟨_, _, c_spot (x := x) (b := 4 * (T : Int)) (c := c) H hc ⟨by omega, by omega⟩, fun y μ' hy => ?_, fun _ _ z => z.elim⟩
  obtain ⟨rfl, rfl⟩ := hy
  refine R205_16 H ?_
  rw [ep]
  have e0 : (t0 : Int) = (((t0 + 0) % 262144 : Nat) : Int) := by rw [Nat.add_zero, Nat.mod_eq_of_lt h0]
  rw [e0]
  exact loop mm 0 none (by omega) (fun m' hm' => absurd hm' (Nat.not_lt_zero m'))
end RT2
