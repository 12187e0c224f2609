/-! ===== the class's facts: add ===== -/
section CF3
variable {d : Nat} {μ : am_Mem} {m l : PM} {Q : Option Value ⊕ Nat → am_Mem → Prop} {W : Int → Nat} {F c : Nat} {x T : Int}
theorem lsF_no {r : Int → Int} {x : Int} : ∀ {F : Nat}, ¬ 0 < cnF r x F → lsF r x F = -1 := by
  intro F
  induction F with
  | zero => intro _; rfl
  | succ F ih =>
    intro h
    have h0 := (cnF_r r x F).1
    unfold cnF at h
    unfold lsF
    by_cases q : r F = x
    · rw [if_pos q] at h
      omega
    · rw [if_neg q] at h ⊢
      exact ih (by omega)
/-- what adding a fact writes, at F -/
abbrev WFa (F : Nat) (x : Int) (c : Nat) (j : Int) : Prop := ((c = 72 ∨ c = 74 ∨ c = 75) ∧ j = (F : Int)) ∨ (c = 73 ∧ 4 * (F : Int) ≤ j ∧ j < 4 * (F : Int) + 4) ∨ c = 76 ∨ ((c = 77 ∨ c = 78) ∧ j = x) ∨ (c = 71 ∧ j = 7)
theorem FtI_add {m' : PM} {t0 mm : Nat} {ps : List Int} (hI : FtI W m F) (hW4 : ∀ f : Nat, f < F → W (m 72 f) ≤ 4) (hF : F < 1000) (hx : 0 ≤ x ∧ x < 1024) (hps : ps.length ≤ 4) (hW : W x = ps.length) (ht0 : t0 < 4096) (hm : mm < 4096) (ep : spF x ps = (t0 : Int)) (hz : m 76 (((t0 + mm) % 4096 : Nat) : Int) = 0) (hnz : ∀ m', m' < mm → ¬ m 76 (((t0 + m') % 4096 : Nat) : Int) = 0)
    (k : ∀ c j, ¬ WFa F x c j → m' c j = m c j) (e72 : m' 72 (F : Int) = x) (e73 : sl (m' 73) (4 * (F : Int)) ps.length = ps) (e74 : m' 74 (F : Int) = if ¬ m 78 x = 0 then m 77 x else -1) (e75 : m' 75 (F : Int) = (((t0 + mm) % 4096 : Nat) : Int)) (e76 : m' 76 (((t0 + mm) % 4096 : Nat) : Int) = (F : Int) + 1) (k76 : ∀ i, ¬ i = (((t0 + mm) % 4096 : Nat) : Int) → m' 76 i = m 76 i) (e77 : m' 77 x = (F : Int)) (e78 : m' 78 x = m 78 x + 1) (e7 : m' 71 7 = (F : Int) + 1) : FtI W m' (F + 1) ∧ isF m' F x ps := by
  obtain ⟨h1, h2, h3, h4, h5, h6⟩ := hI
  have hl := Nat.mod_lt (t0 + mm) (show 0 < 4096 by decide)
  have f72 : ∀ f : Nat, f < F → m' 72 f = m 72 f := fun f hf => k _ _ (by omega)
  have f73 : ∀ f : Nat, f < F → ∀ n, n ≤ 4 → sl (m' 73) (4 * (f : Int)) n = sl (m 73) (4 * (f : Int)) n := fun f hf n hn => sl_eq.mpr ⟨rfl, fun j hj => k _ _ (by omega)⟩
  have c72 : ∀ r, cnF (m' 72) r F = cnF (m 72) r F := fun r => cnF_cg F f72
  have l72 : ∀ r (f : Nat), f ≤ F → lsF (m' 72) r f = lsF (m 72) r f := fun r f hf => lsF_cg f (fun g hg => f72 g (by omega))
  refine ⟨⟨by rw [e7]; omega, by omega, fun f hf => ?_, fun r r0 r1 => ?_, fun i hi => ?_, ?_⟩, e72, e73⟩
  · by_cases q : f = F
    · rw [q, e72, e75, e76, l72 x F (Nat.le_refl _)]
      refine ⟨hx, ⟨by omega, by omega⟩, rfl, ?_⟩
      obtain ⟨g1, g2⟩ := h4 x hx.1 hx.2
      rw [e74]
      by_cases y : m 78 x = 0
      · rw [if_neg (fun z => z y), lsF_no (by rw [← g1, y]; decide)]
      · have := (cnF_r (m 72) x F).1
        rw [if_pos y, g2 (by rw [g1] at y; omega)]
    · have hfF : f < F := by omega
      obtain ⟨a1, a2, a3, a4⟩ := h3 f hfF
      have e5 : m' 75 (f : Int) = m 75 (f : Int) := k _ _ (by omega)
      have e4 : m' 74 (f : Int) = m 74 (f : Int) := k _ _ (by omega)
      rw [f72 f hfF, e5, e4, l72 _ f (by omega)]
      refine ⟨a1, a2, ?_, a4⟩
      by_cases y : m 75 (f : Int) = (((t0 + mm) % 4096 : Nat) : Int)
      · rw [y, hz] at a3
        omega
      · rw [k76 _ y]
        exact a3
  · obtain ⟨g1, g2⟩ := h4 r r0 r1
    unfold cnF lsF
    rw [c72 r, l72 r F (Nat.le_refl _), e72]
    by_cases q : x = r
    · rw [← q] at g1
      rw [if_pos q, if_pos q, ← q, e78, e77, g1]
      exact ⟨rfl, fun _ => rfl⟩
    · rw [if_neg q, if_neg q, k 78 r (by omega), k 77 r (by omega), Int.add_zero]
      exact ⟨g1, g2⟩
  · by_cases q : i = (t0 + mm) % 4096
    · rw [q, e76]
      omega
    · rw [k76 _ (by omega)]
      have := h5 i hi
      omega
  · have z := HC_add h6 (t := t0) (m := mm) (by decide) hm (by show (m 76 (((t0 + mm) % 4096 : Nat) : Int)).toNat = 0; rw [hz]; rfl) (fun m' hm' y => hnz m' hm' (by
      have y' : (m 76 (((t0 + m') % 4096 : Nat) : Int)).toNat = 0 := y
      have := h5 ((t0 + m') % 4096) (Nat.mod_lt _ (by decide))
      omega))
    refine HC_cg (by decide) (fun i hi => ?_) (fun f hf => ?_) z
    · show (if i = (t0 + mm) % 4096 then F + 1 else (m 76 i).toNat) = (m' 76 i).toNat
      by_cases q : i = (t0 + mm) % 4096
      · rw [if_pos q, q, e76]
        omega
      · rw [if_neg q, k76 _ (by omega)]
    · show (if f = F then t0 else (spF (m 72 f) (sl (m 73) (4 * (f : Int)) (W (m 72 f)))).toNat) = (spF (m' 72 f) (sl (m' 73) (4 * (f : Int)) (W (m' 72 f)))).toNat
      by_cases q : f = F
      · rw [if_pos q, q, e72, hW, e73, ep]
        rfl
      · rw [if_neg q, f72 f (by omega)]
        rw [f73 f (by omega) _ (hW4 f (by omega))]
theorem k_add (H : CS μ) (hI : FtI W m F) (hP : FtP W m F T) (hT : T ≤ 100000) (hx : 0 ≤ x ∧ x < 1024) (hc : c ≤ 4) (hW : W x = c) (hr : ∀ k : Nat, k < c → 0 ≤ m 79 k ∧ m 79 k < 100000)
    (hf : ∀ f : Nat, f < F → isF m f x (sl (m 79) 0 c) → Q (.inl none) (sA μ m l))
    (hX : (∀ f : Nat, f < F → ¬ isF m f x (sl (m 79) 0 c)) → F = 1000 → Q (.inr 3) (sA (am_nX μ) m l))
    (hn : (∀ f : Nat, f < F → ¬ isF m f x (sl (m 79) 0 c)) → F < 1000 → ∀ m' : PM, FtI W m' (F + 1) → isF m' F x (sl (m 79) 0 c) → (∀ c j, ¬ WFa F x c j → m' c j = m c j) → Q (.inl none) (sA μ m' l)) :
    Wp (d + 1) 31 (0, [some (.ref 71), some (.int (zI x)), some (.int (zI (c : Int))), none, none], [], sA μ m l) Q := by
  have hF := hI.2.1
  have e7 := hI.1
  refine K31_0 H ⟨fun y μ' => Wp (d + 1) 31 (6, [some (.ref 71), some (.int (zI x)), some (.int (zI (c : Int))), none, none], [.int y], μ') Q, noX, ?_, fun _ _ z => z, fun _ _ z => z.elim⟩
  refine k_slotOf (d := d) (Q := pI _ noX) H hI hP hT hx hc hW hr (fun at_ f h1 h2 h3 h4 => ?_) (fun t0 mm h1 h2 h3 h4 h5 h6 => ?_)
  · refine K31_6 H ⟨⟨by omega, by omega⟩, by rw [h3]; exact ⟨by omega, by omega⟩, fun z => by omega, fun _ => hf f h2 h4⟩
  · have hl := Nat.mod_lt (t0 + mm) (show 0 < 4096 by decide)
    refine K31_6 H ⟨⟨by omega, by omega⟩, by rw [h4]; exact iR_0, fun _ => ⟨by rw [e7]; exact ⟨by omega, by omega⟩, fun z => ⟨⟨by omega, by omega⟩, ?_⟩, fun z => hX h6 (by omega)⟩, fun z => absurd h4 z⟩
    have hF1 : F < 1000 := by omega
    have h78 := hI.2.2.2.1 x hx.1 hx.2
    have c78 := cnF_r (m 72) x F
    rw [e7]
    rintro m1 e1
    have lay : ∀ (g k : Nat) (m2 : PM), k + g = c → (∀ c j, ¬ ((c = 72 ∧ j = (F : Int)) ∨ (c = 73 ∧ 4 * (F : Int) ≤ j ∧ j < 4 * (F : Int) + 4)) → m2 c j = m c j) → m2 72 (F : Int) = x → (∀ j : Nat, j < k → m2 73 (4 * (F : Int) + j) = m 79 (j : Int)) → Wp (d + 1) 31 (50, [some (.ref 71), some (.int (zI x)), some (.int (zI (c : Int))), some (.int (zI (((t0 + mm) % 4096 : Nat) : Int))), some (.int (zI (k : Int)))], [], sA μ m2 l) Q := by
      intro g
      induction g with
      | zero =>
        intro k m2 hk f2 e72 hs
        have g77 : m2 77 x = m 77 x := f2 _ _ (by omega)
        have g78 : m2 78 x = m 78 x := f2 _ _ (by omega)
        have g7 : m2 71 7 = (F : Int) := by rw [f2 _ _ (by omega)]; exact e7
        refine K31_50 H ⟨⟨by omega, by omega⟩, ⟨by omega, by omega⟩, fun _ => ⟨hx, by rw [g78, h78.1]; exact ⟨by omega, by omega⟩, ?_⟩, fun z => by omega⟩
        rw [g77, g78, g7]
        rintro v1 ev1
        refine ⟨⟨by omega, by omega⟩, ?_⟩
        rintro m3 e3 m4 e4
        refine ⟨⟨by omega, by omega⟩, ?_⟩
        rintro m5 e5
        have ee : ∀ c j, m5 c j = if c = 76 ∧ j = (((t0 + mm) % 4096 : Nat) : Int) then (F : Int) + 1 else if c = 71 ∧ j = 7 then (F : Int) + 1 else if c = 75 ∧ j = (F : Int) then (((t0 + mm) % 4096 : Nat) : Int) else if c = 78 ∧ j = x then m 78 x + 1 else if c = 77 ∧ j = x then (F : Int) else if c = 74 ∧ j = (F : Int) then v1 else m2 c j := fun c j => by rw [e5, e4, e3]; simp only [up_e]
        have ew : sl (m2 73) (4 * (F : Int)) c = sl (m 79) 0 c := sl_eq.mpr ⟨rfl, fun j hj => by rw [hs j (by omega)]; congr 1; omega⟩
        have e573 : ∀ j, m5 73 j = m2 73 j := fun j => by rw [ee, if_neg (by omega), if_neg (by omega), if_neg (by omega), if_neg (by omega), if_neg (by omega), if_neg (by omega)]
        have fr : ∀ c j, ¬ WFa F x c j → m5 c j = m c j := fun c j z => by
          rw [ee, if_neg (by omega), if_neg (by omega), if_neg (by omega), if_neg (by omega), if_neg (by omega), if_neg (by omega)]
          exact f2 c j (by omega)
        obtain ⟨w1, w2⟩ := FtI_add (W := W) (m := m) (m' := m5) (F := F) (x := x) (ps := sl (m 79) 0 c) (t0 := t0) (mm := mm) hI (fun f hf => (hP f hf).1) hF1 hx (by rw [sl_len]; exact hc) (by rw [sl_len]; exact hW) h1 h2 h3 h4 h5 fr (by rw [ee, if_neg (by omega), if_neg (by omega), if_neg (by omega), if_neg (by omega), if_neg (by omega), if_neg (by omega)]; exact e72) (by
          rw [sl_len, ← ew]
          exact sl_eq.mpr ⟨rfl, fun j hj => e573 _⟩) (by rw [ee, if_neg (by omega), if_neg (by omega), if_neg (by omega), if_neg (by omega), if_neg (by omega), if_pos ⟨rfl, rfl⟩]; exact ev1) (by rw [ee, if_neg (by omega), if_neg (by omega), if_pos ⟨rfl, rfl⟩]) (by rw [ee, if_pos ⟨rfl, rfl⟩]) (fun i hi => by
            rw [ee, if_neg (fun z => hi z.2), if_neg (by omega), if_neg (by omega), if_neg (by omega), if_neg (by omega), if_neg (by omega)]
            exact f2 _ _ (by omega)) (by rw [ee, if_neg (by omega), if_neg (by omega), if_neg (by omega), if_neg (by omega), if_pos ⟨rfl, rfl⟩]) (by rw [ee, if_neg (by omega), if_neg (by omega), if_neg (by omega), if_pos ⟨rfl, rfl⟩]) (by rw [ee, if_neg (by omega), if_pos ⟨rfl, rfl⟩])
        exact hn h6 hF1 m5 w1 w2 fr
      | succ g ih =>
        intro k m2 hk f2 e72 hs
        have g7 : m2 71 7 = (F : Int) := by rw [f2 _ _ (by omega)]; exact e7
        refine K31_50 H ⟨⟨by omega, by omega⟩, ⟨by omega, by omega⟩, fun z => by omega, fun _ => ⟨⟨by omega, by omega⟩, by rw [g7]; exact ⟨by omega, by omega⟩, ?_⟩⟩
        rw [g7]
        rintro m3 e3
        have e79 : m2 79 (k : Int) = m 79 (k : Int) := f2 _ _ (by omega)
        rw [e79] at e3
        have go := ih (k + 1) m3 (by omega) (fun c j z => by rw [e3, up_o (by omega)]; exact f2 c j z) (by rw [e3, up_c (by decide)]; exact e72) (fun j hj => by
          by_cases y : j = k
          · rw [y, e3, up_s]
          · rw [e3, up_i (by omega)]
            exact hs j (by omega))
        rw [show ((k + 1 : Nat) : Int) = (k : Int) + 1 by omega] at go
        exact go
    exact lay c 0 m1 (by omega) (fun c j z => by rw [e1, up_o (by omega)]) (by rw [e1, up_s]) (fun j hj => absurd hj (Nat.not_lt_zero j))
end CF3
