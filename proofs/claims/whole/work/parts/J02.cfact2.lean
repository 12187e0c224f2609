/-! ===== the class's facts: find, add ===== -/
/-- fact f is this relation's with these terms -/
def isF (m : PM) (f x : Int) (ps : List Int) : Prop := m 72 f = x ∧ sl (m 73) (4 * f) ps.length = ps
/-- its terms are numbers of terms -/
def FtP (W : Int → Nat) (m : PM) (F : Nat) (T : Int) : Prop := ∀ f : Nat, f < F → W (m 72 f) ≤ 4 ∧ ∀ k : Nat, k < W (m 72 f) → 0 ≤ m 73 (4 * (f : Int) + k) ∧ m 73 (4 * (f : Int) + k) < T
section CF2
variable {d : Nat} {μ : am_Mem} {m l : PM} {Q : Option Value ⊕ Nat → am_Mem → Prop} {W : Int → Nat} {F c : Nat} {x T : Int}
theorem spF_r (x : Int) (ps : List Int) : ∃ t : Nat, t < 4096 ∧ spF x ps = (t : Int) := by
  have z := zAnd_rk 12 (by decide) (zXor (fcN x ps) (zUsh (fcN x ps) 13))
  exact z
theorem sl_1 {r : Int → Int} {b : Int} {n : Nat} {ps : List Int} (h : sl r b n = ps) {k : Nat} (hk : k < n) : r (b + k) = ps.getD k 0 := by
  rw [← h]
  exact (sl_get _ _ _ _ hk).symm
theorem k_slotOf (H : CS μ) (hI : FtI W m F) (hP : FtP W m F T) (hT : T ≤ 100000) (hx : 0 ≤ x ∧ x < 1024) (hc : c ≤ 4) (hW : W x = c) (hr : ∀ k : Nat, k < c → 0 ≤ m 79 k ∧ m 79 k < 100000)
    (hf : ∀ (at_ f : Nat), at_ < 4096 → f < F → m 76 at_ = (f : Int) + 1 → isF m f x (sl (m 79) 0 c) → Q (.inl (some (.int (zI (at_ : Int))))) (sA μ m l))
    (hn : ∀ (t0 mm : Nat), t0 < 4096 → mm < 4096 → spF x (sl (m 79) 0 c) = (t0 : Int) → m 76 (((t0 + mm) % 4096 : Nat) : Int) = 0 → (∀ m', m' < mm → ¬ m 76 (((t0 + m') % 4096 : Nat) : Int) = 0) → (∀ f : Nat, f < F → ¬ isF m f x (sl (m 79) 0 c)) → Q (.inl (some (.int (zI (((t0 + mm) % 4096 : Nat) : Int))))) (sA μ m l)) :
    Wp d 30 (0, [some (.ref 71), some (.int (zI x)), some (.int (zI (c : Int))), none, none, none, none, none], [], sA μ m l) Q := by
  obtain ⟨t0, ht0, ep⟩ := spF_r x (sl (m 79) 0 c)
  have en : ∀ y : Nat, y < 4096 → zAnd ((y : Int) + 1) 4095 = (((y + 1) % 4096 : Nat) : Int) := fun y hy => zAnd_nk 12 (by decide) y hy
  obtain ⟨e7, hF, h3, h4, h5, h6⟩ := id hI
  obtain ⟨mm, hm, hz, hnz⟩ := HT_first (HC_ht h6) (by omega) t0 ht0
  have hz' : m 76 (((t0 + mm) % 4096 : Nat) : Int) = 0 := by
    have := h5 ((t0 + mm) % 4096) (Nat.mod_lt _ (by decide))
    have z : (m 76 (((t0 + mm) % 4096 : Nat) : Int)).toNat = 0 := hz
    omega
  have hnz' : ∀ m', m' < mm → ¬ m 76 (((t0 + m') % 4096 : Nat) : Int) = 0 := by
    intro m' hm' z
    exact hnz m' hm' (by show (m 76 (((t0 + m') % 4096 : Nat) : Int)).toNat = 0; rw [z]; rfl)
  have key : ∀ f : Nat, f < F → isF m f x (sl (m 79) 0 c) → sl (m 73) (4 * (f : Int)) (W (m 72 f)) = sl (m 79) 0 c := fun f hf z => by
    have z2 := z.2
    rw [sl_len] at z2
    rw [z.1, hW]
    exact z2
  have loop : ∀ (r i : Nat) (x3 : Int) (o6 o7 : Option Value), i + r = mm → (∀ m', m' < i → ∀ f : Nat, m 76 (((t0 + m') % 4096 : Nat) : Int) = (f : Int) + 1 → ¬ isF m f x (sl (m 79) 0 c)) → Wp d 30 (53, [some (.ref 71), some (.int (zI x)), some (.int (zI (c : Int))), some (.int (zI x3)), some (.int (zI (((t0 + i) % 4096 : Nat) : Int))), some (.int (zI (i : Int))), o6, o7], [], sA μ m l) Q := by
    intro r
    induction r with
    | zero =>
      intro i x3 o6 o7 hi hno
      have ei : i = mm := by omega
      rw [ei] at hno ⊢
      have hall : ∀ f : Nat, f < F → ¬ isF m f x (sl (m 79) 0 c) := by
        intro f hf z
        have hpl : (fun f : Nat => (spF (m 72 f) (sl (m 73) (4 * (f : Int)) (W (m 72 f)))).toNat) f = t0 := by
          show (spF (m 72 f) (sl (m 73) (4 * (f : Int)) (W (m 72 f)))).toNat = t0
          rw [key f hf z, z.1, ep]
          rfl
        obtain ⟨m', g1, g2⟩ := HT_before (HC_ht h6) hf hpl hz
        refine hno m' g1 f ?_ z
        have g2' : (m 76 (((t0 + m') % 4096 : Nat) : Int)).toNat = f + 1 := g2
        omega
      have hl := Nat.mod_lt (t0 + mm) (show 0 < 4096 by decide)
      have fin := hn t0 mm ht0 hm ep hz' hnz' hall
      exact K30_53 H ⟨⟨by omega, by omega⟩, fun _ => fin, fun _ => ⟨⟨by omega, by omega⟩, by rw [hz']; exact iR_0, fun _ => fin, fun z => absurd hz' z⟩⟩
    | succ r ih =>
      intro i x3 o6 o7 hi hno
      have hl := Nat.mod_lt (t0 + i) (show 0 < 4096 by decide)
      have hv := h5 ((t0 + i) % 4096) hl
      have hv0 := hnz' i (by omega)
      obtain ⟨f, ef⟩ : ∃ f : Nat, m 76 (((t0 + i) % 4096 : Nat) : Int) = (f : Int) + 1 := ⟨(m 76 (((t0 + i) % 4096 : Nat) : Int) - 1).toNat, by omega⟩
      have hfF : f < F := by omega
      obtain ⟨a1, a2, a3, a4⟩ := h3 f hfF
      obtain ⟨p1, p2⟩ := hP f hfF
      have next : ¬ isF m f x (sl (m 79) 0 c) → ∀ o6 o7 : Option Value, Wp d 30 (53, [some (.ref 71), some (.int (zI x)), some (.int (zI (c : Int))), some (.int (zI x3)), some (.int (zI (zAnd ((((t0 + i) % 4096 : Nat) : Int) + 1) 4095))), some (.int (zI ((i : Int) + 1))), o6, o7], [], sA μ m l) Q := by
        intro hno2 o6 o7
        rw [en _ hl, Nat.mod_add_mod]
        refine ih (i + 1) x3 o6 o7 (by omega) (fun m' hm' k' ek' => ?_)
        by_cases w : m' = i
        · rw [w] at ek'
          have : k' = f := by omega
          rw [this]
          exact hno2
        · exact hno m' (by omega) k' ek'
      refine K30_53 H ⟨⟨by omega, by omega⟩, fun z => by omega, fun _ => ⟨⟨by omega, by omega⟩, ⟨by omega, by omega⟩, fun z => absurd z hv0, fun _ => ?_⟩⟩
      rw [ef, show (f : Int) + 1 - 1 = (f : Int) by omega]
      refine ⟨⟨by omega, by omega⟩, ⟨by omega, by omega⟩, ⟨by omega, by omega⟩, fun z => next (fun y => z y.1) _ _, fun z => ?_⟩
      have ex : m 72 (f : Int) = x := Classical.byContradiction z
      rw [ex, hW] at p2
      have inner : ∀ (g k : Nat), k + g = c → (∀ j : Nat, j < k → m 73 (4 * (f : Int) + j) = m 79 (j : Int)) → Wp d 30 (96, [some (.ref 71), some (.int (zI x)), some (.int (zI (c : Int))), some (.int (zI x3)), some (.int (zI (((t0 + i) % 4096 : Nat) : Int))), some (.int (zI (i : Int))), some (.int (zI (f : Int))), some (.int (zI (k : Int)))], [], sA μ m l) Q := by
        intro g
        induction g with
        | zero =>
          intro k hk hs
          refine K30_96 H ⟨⟨by omega, by omega⟩, ⟨by omega, by omega⟩, fun _ => ?_, fun z => by omega⟩
          refine K30_130 H ⟨⟨by omega, by omega⟩, ⟨by omega, by omega⟩, fun z => absurd (by omega) z, fun _ => hf _ f hl hfF ef ⟨ex, ?_⟩⟩
          rw [sl_len]
          exact sl_eq.mpr ⟨rfl, fun j hj => by rw [hs j (by omega)]; congr 1; omega⟩
        | succ g ihg =>
          intro k hk hs
          have q1 := p2 k (by omega)
          have q2 := hr k (by omega)
          refine K30_96 H ⟨⟨by omega, by omega⟩, ⟨by omega, by omega⟩, fun z => by omega, fun _ => ⟨⟨by omega, by omega⟩, ⟨by omega, by omega⟩, ⟨by omega, by omega⟩, ⟨by omega, by omega⟩, fun z => ?_, fun z => ?_⟩⟩
          · refine K30_130 H ⟨⟨by omega, by omega⟩, ⟨by omega, by omega⟩, fun _ => next (fun y => z ?_) _ _, fun y => absurd (by omega) y⟩
            have y2 := y.2
            rw [sl_len] at y2
            have := (sl_eq.mp y2).2 k (by omega)
            rw [this]
            congr 1
            omega
          · have e : m 73 (4 * (f : Int) + (k : Int)) = m 79 (k : Int) := Classical.byContradiction z
            have go := ihg (k + 1) (by omega) (fun j hj => by
              by_cases y : j = k
              · rw [y]; exact e
              · exact hs j (by omega))
            rw [show ((k + 1 : Nat) : Int) = (k : Int) + 1 by omega] at go
            exact go
      exact inner c 0 (by omega) (fun j hj => absurd hj (Nat.not_lt_zero j))
  have mix : ∀ (r k : Nat) (x3 : Int), k + r = c → x3 = fcN x (sl (m 79) 0 k) → Wp d 30 (8, [some (.ref 71), some (.int (zI x)), some (.int (zI (c : Int))), some (.int (zI x3)), some (.int (zI (k : Int))), none, none, none], [], sA μ m l) Q := by
    intro r
    induction r with
    | zero =>
      intro k x3 hk e3
      refine K30_8 H ⟨⟨by omega, by omega⟩, ⟨by omega, by omega⟩, fun _ v1 ev => ?_, fun z => by omega⟩
      have ek : k = c := by omega
      have ev' : v1 = (((t0 + 0) % 4096 : Nat) : Int) := by
        rw [Nat.add_zero, Nat.mod_eq_of_lt ht0, ← ep, ev, e3, ek]
        rfl
      rw [ev']
      exact loop mm 0 x3 none none (by omega) (fun m' hm' => absurd hm' (Nat.not_lt_zero m'))
    | succ r ih =>
      intro k x3 hk e3
      refine K30_8 H ⟨⟨by omega, by omega⟩, ⟨by omega, by omega⟩, fun z => by omega, fun _ => ⟨⟨by omega, by omega⟩, fun v2 ev => ?_⟩⟩
      have go := ih (k + 1) v2 (by omega) (by
        rw [sl_succ, fcN_snoc, ← e3, ev]
        rw [show (0 : Int) + (k : Int) = (k : Int) by omega])
      rw [show ((k + 1 : Nat) : Int) = (k : Int) + 1 by omega] at go
      exact go
  exact K30_0 H (mix c 0 _ (by omega) rfl)
theorem k_find (H : CS μ) (hI : FtI W m F) (hP : FtP W m F T) (hT : T ≤ 100000) (hx : 0 ≤ x ∧ x < 1024) (hc : c ≤ 4) (hW : W x = c) (hr : ∀ k : Nat, k < c → 0 ≤ m 79 k ∧ m 79 k < 100000)
    (hf : ∀ f : Nat, f < F → isF m f x (sl (m 79) 0 c) → Q (.inl (some (.int (zI (f : Int))))) (sA μ m l))
    (hn : (∀ f : Nat, f < F → ¬ isF m f x (sl (m 79) 0 c)) → Q (.inl (some (.int (zI (-1))))) (sA μ m l)) :
    Wp (d + 1) 29 (0, [some (.ref 71), some (.int (zI x)), some (.int (zI (c : Int)))], [], sA μ m l) Q := by
  have hF := hI.2.1
  refine K29_0 H ⟨fun y μ' => Wp (d + 1) 29 (10, [some (.ref 71), some (.int (zI x)), some (.int (zI (c : Int)))], [.int y, .ref 76], μ') Q, noX, ?_, fun _ _ z => z, fun _ _ z => z.elim⟩
  refine k_slotOf (d := d) (Q := pI _ noX) H hI hP hT hx hc hW hr (fun at_ f h1 h2 h3 h4 => ?_) (fun t0 mm h1 h2 h3 h4 h5 h6 => ?_)
  · refine K29_10 H ⟨⟨by omega, by omega⟩, ?_⟩
    rw [h3, show (f : Int) + 1 - 1 = (f : Int) by omega]
    exact hf f h2 h4
  · have hl := Nat.mod_lt (t0 + mm) (show 0 < 4096 by decide)
    refine K29_10 H ⟨⟨by omega, by omega⟩, ?_⟩
    rw [h4]
    exact hn h6
end CF2
