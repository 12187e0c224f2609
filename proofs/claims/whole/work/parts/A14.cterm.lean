/-! ===== the class's parser: takeTerm, whole ===== -/
theorem pI_map {P P' : Int32 → am_Mem → Prop} {X : Nat → am_Mem → Prop} {o : Option Value ⊕ Nat} {μ : am_Mem} (h : ∀ y μ', P y μ' → P' y μ') (z : pI P X o μ) : pI P' X o μ := by
  cases o with
  | inr x => exact z
  | inl v =>
    obtain ⟨x, rfl, w⟩ := pI_r z
    exact h x μ w
section CPD
variable {t : Int → Int} {n : Int} {X : Int → List Int → Prop} {J : Nat} {d : Nat} {μ : am_Mem} {m l : PM} {s : Nat} {i : Nat} {vs : List (List Int)}
/-- takeParts from its beginning -/
theorem tp_0 {dl mn mx : Nat} {x1 : Int} {L : Int → Prop} (H : CS μ) (hs : s = 22 ∨ s = 42) (hS : am_F μ 62 1 = s) (hn : 0 ≤ n ∧ n ≤ 2000) (hdl : dl ≤ 9) (hSim : SimC t n X J s μ l d dl) (hL : L x1) (hx1 : 0 ≤ x1 ∧ x1 < 2048) (hmn : mn ≤ mx) (hmx : mx ≤ 4) (h : CI t n X J s m i vs) (hr : m s 6 + 1 ≤ (nt t n i : Int)) :
  Wp (d + 1) 60 (0, [some (.ref 62), some (.int (zI x1)), some (.int (zI (10 - (dl : Int)))), some (.int (zI (mn : Int))), some (.int (zI (mx : Int))), none, none, none], [], sA μ m l) (pI (PaP t n X J s μ l m (dl + 1) (m s 6) (10 - (dl : Int)) L (pPs (tK t n) (pT t n dl) mn mx i vs [])) noX) := by
  refine K60_0 H hs hS ?_
  exact tp_6 (m0 := m) H hs hS hn hdl hSim hL hx1 hmn hmx h.2.2.2.1.1 mx m i vs [] none (Nat.zero_add mx) h (fun _ _ _ => rfl) (by show m s 6 = m s 6 + ((0 : Nat) : Int); omega) trivial (fun i hi => absurd hi (Nat.not_lt_zero i)) hr
/-- takeTerm at an opening parenthesis -/
theorem tt_open {dl : Nat} {x1 x2 : Int} (H : CS μ) (hs : s = 22 ∨ s = 42) (hS : am_F μ 62 1 = s) (hX : XP X) (hn : 0 ≤ n ∧ n ≤ 2000) (hdl : dl ≤ 9) (hSim : SimC t n X J s μ l d dl) (hx : x1 + 1 = 10 - (dl : Int)) (h : CI t n X J s m i vs) (hk : tK t n i = 1) :
  Wp (d + 2) 58 (43, [some (.ref 62), some (.int (zI x1)), some (.int (zI x2)), none, none], [], sA μ m l) (pI (PaP t n X J s μ l m (dl + 1) (m s 6) (x1 + 1) (fun x => X x (tW t n (i + 1))) (if pln t n (i + 1) then pPs (tK t n) (pT t n dl) 1 4 (i + 2) vs [] else .inl (i + 1))) noX) := by
  obtain ⟨hT, h2, h3, h4, _⟩ := id h
  have hJ := hT.1
  have hc := ck_all t n i
  have e19 : m 19 (m 62 2) = ckK (tK t n i) := by rw [h2]; exact (hT.2.2.2 i h3).1
  have e0 : m 19 (m 62 2) = 0 := by rw [e19]; exact hc.1.mpr hk
  have hlt := CI_lt h (by omega)
  have hC := CI_adv hs h hlt
  have k : ∀ c j, ¬ (c = 62 ∧ j = 2) → up m 62 2 (m 62 2 + 1) c j = m c j := fun c j q => up_o q
  refine K58_43 H hs hS ⟨by omega, by rw [e0]; decide, fun v1 e1 => ?_⟩
  rw [if_neg (not_not_intro e0)] at e1
  rw [e1]
  refine ⟨fun z => absurd z (by decide), fun _ => ⟨by unfold iR; omega, fun _ m2 e2 => ?_, fun z => absurd (by omega) z⟩⟩
  rw [← e2] at hC k
  have e6 : m2 s 6 = m s 6 := k _ _ (by omega)
  by_cases hb : pln t n (i + 1)
  · rw [if_pos hb]
    have hp' := (pln_iff hX hC).mp hb
    obtain ⟨hT', h2', h3', _⟩ := id hC
    have hc' := ck_all t n (i + 1)
    have e19' : m2 19 (m2 62 2) = ckK (tK t n (i + 1)) := by rw [h2']; exact (hT'.2.2.2 (i + 1) h3').1
    obtain ⟨k3, n8, n9⟩ := hp'
    have hw0 := (hT'.2.2.2 (i + 1) h3').2.2 (Or.inl k3)
    rw [← h2'] at hw0
    have hw := hX.1 _ _ hw0
    have hlt' := CI_lt hC (by omega)
    have hN := nt_n (t := t) (n := n) (i := i + 1) (Or.inl k3)
    have hm := nt_m t n i
    refine K58_78 H hs hS ⟨by omega, by rw [e19']; exact hc'.2.2.2.2, fun z => absurd (by rw [e19']; exact hc'.2.2.1.mpr k3) z, fun _ => ⟨by omega, by unfold iR; omega, fun z => absurd z n8, fun _ => ⟨fun _ => ⟨by decide, fun z => absurd z (by decide), fun _ m3 e3 => ?_⟩, fun z => absurd n9 z⟩⟩⟩
    have hC3 := CI_adv hs hC hlt'
    rw [← e3] at hC3
    have k3' : ∀ c j, ¬ (c = 62 ∧ j = 2) → m3 c j = m2 c j := fun c j q => by rw [e3]; exact up_o q
    have e63 : m3 s 6 = m s 6 := by rw [k3' _ _ (by omega)]; exact e6
    have hz := tp_0 (mn := 1) (mx := 4) (L := fun x => X x (tW t n (i + 1))) H hs hS hn hdl hSim hw0 hw (by decide) (by decide) hC3 (by rw [e63]; rw [show i + 2 = i + 1 + 1 from rfl] ; omega)
    rw [hx]
    refine ⟨_, noX, hz, fun y μ' hy => ?_, fun _ _ z => z.elim⟩
    obtain ⟨x', m', rfl, hx', rfl, hq1, hq2⟩ := hy
    refine K58_161 H hs hS ⟨x', m', rfl, hx', rfl, fun c j q => ?_, ?_⟩
    · rw [hq1 c j (by omega), k3' c j (by omega)]
      exact k c j (by omega)
    · rw [e63] at hq2
      exact hq2
  · rw [if_neg hb]
    exact tt_bad H hs hS hX hC hb ⟨-1, m2, rfl, by decide, rfl, fun c j q => k c j (by omega), rfl, hC.2.1, hC.2.2.1⟩
/-- parts in parentheses are a term -/
theorem PaQ_TmQ {f : Nat} {D x : Int} {w : List Int} {r : Rd (List (List Cd))} {m' : PM} (h : PaQ t n X J s m f (m s 6) D (fun x => X x w) r x m') : TmQ t n X J s m (f + 1) D (ndC w r) x m' := by
  obtain ⟨h1, h2⟩ := h
  refine ⟨h1, ?_⟩
  cases r with
  | inl e => exact h2
  | inr y =>
    obtain ⟨ps, i', vs'⟩ := y
    obtain ⟨a1, a2, a3, b1, b2, b3, b4, b5, b6⟩ := h2
    have el : (((ps.length, w) :: ps.flatten : List Cd).length : Int) = ps.flatten.length + 1 := by simp
    refine ⟨by omega, by show 1 ≤ ps.flatten.length + 1; omega, a2, by omega, ?_⟩
    unfold TcR
    simp only
    refine ⟨?_, b4, ?_⟩
    · rw [b3]
      show (vmC ps.flatten : Int) = (((if 5 ≤ ps.length then 2 ^ (ps.length - 5) else 0) ||| vmC ps.flatten : Nat) : Int)
      rw [if_neg (by omega), Nat.zero_or]
    · rw [if_neg (by omega)]
      exact ⟨ps, rfl, rfl, b1, b2, b6⟩
/-- takeTerm reads terms -/
theorem simC (H : CS μ) (hs : s = 22 ∨ s = 42) (hS : am_F μ 62 1 = s) (hX : XP X) (hn : 0 ≤ n ∧ n ≤ 2000) : ∀ dl : Nat, dl ≤ 10 → ∀ d : Nat, SimC t n X J s μ l (d + 2 * dl + 1) dl := by
  intro dl
  induction dl with
  | zero =>
    intro _ d m i vs h
    show Wp (d + 2 * 0 + 1) 58 _ (pI (TmP t n X J s μ l m (0 + 1) (10 - ((0 : Nat) : Int) + 1) (pT0 t n i vs (.inl i))) noX)
    by_cases c4 : tK t n i = 4
    · exact tt_var H hs hS hX hn h c4
    obtain ⟨hT, h2, h3, h4, _⟩ := id h
    have hJ := hT.1
    have hc := ck_all t n i
    have e19 : m 19 (m 62 2) = ckK (tK t n i) := by rw [h2]; exact (hT.2.2.2 i h3).1
    refine K58_0 H hs hS ⟨by omega, by rw [e19]; exact hc.2.2.2.2, fun _ => ?_, fun z => absurd (hc.2.2.2.1.mp (by rw [← e19]; exact Decidable.byContradiction z)) c4⟩
    by_cases c1 : tK t n i = 1
    · have e : pT0 t n i vs (.inl i) = .inl i := by
        unfold pT0
        rw [if_neg c4, if_neg (fun z => absurd z.1 (by omega)), if_pos c1]
      rw [e]
      have e0 : m 19 (m 62 2) = 0 := by rw [e19]; exact hc.1.mpr c1
      refine K58_43 H hs hS ⟨by omega, by rw [e0]; decide, fun v1 e1 => ?_⟩
      rw [if_neg (not_not_intro e0)] at e1
      rw [e1]
      exact ⟨fun z => absurd z (by decide), fun _ => ⟨by decide, fun z => absurd z (by decide), fun _ => ⟨-1, m, rfl, by decide, rfl, fun _ _ _ => rfl, rfl, h2, h3⟩⟩⟩
    · have e : pT0 t n i vs (.inl i) = if pln t n i then .inr ([(0, tW t n i)], i + 1, vs) else .inl i := by
        unfold pT0
        rw [if_neg c4, if_neg c1]
      rw [e]
      exact tt_name H hs hS hX hn h c1
  | succ dl ih =>
    intro hdl d m i vs h
    have hSim := ih (by omega) d
    have ed : d + 2 * (dl + 1) + 1 = (d + 2 * dl + 1) + 2 := by omega
    have eD : (10 - ((dl + 1 : Nat) : Int)) + 1 = 10 - (dl : Int) := by omega
    rw [ed]
    by_cases c4 : tK t n i = 4
    · exact tt_var H hs hS hX hn h c4
    obtain ⟨hT, h2, h3, h4, _⟩ := id h
    have hJ := hT.1
    have hc := ck_all t n i
    have e19 : m 19 (m 62 2) = ckK (tK t n i) := by rw [h2]; exact (hT.2.2.2 i h3).1
    refine K58_0 H hs hS ⟨by omega, by rw [e19]; exact hc.2.2.2.2, fun _ => ?_, fun z => absurd (hc.2.2.2.1.mp (by rw [← e19]; exact Decidable.byContradiction z)) c4⟩
    by_cases c1 : tK t n i = 1
    · have e : pT t n (dl + 1) i vs = ndC (tW t n (i + 1)) (if pln t n (i + 1) then pPs (tK t n) (pT t n dl) 1 4 (i + 2) vs [] else .inl (i + 1)) := by
        show pT0 t n i vs _ = _
        unfold pT0
        rw [if_neg c4, if_neg (fun z => absurd z.1 (by omega)), if_pos c1]
        by_cases hb : pln t n (i + 1)
        · rw [if_pos hb, if_pos hb]
          cases pPs (tK t n) (pT t n dl) 1 4 (i + 2) vs [] with
          | inl x => rfl
          | inr y => rfl
        · rw [if_neg hb, if_neg hb]
          rfl
      rw [e]
      have hz := tt_open (x2 := 0) H hs hS hX hn (by omega) hSim eD h c1
      refine hz.mono (fun o μ' ho => ?_)
      refine pI_map (fun y μ'' hy => ?_) ho
      obtain ⟨x', m', e1, hx', e2, hq⟩ := hy
      exact ⟨x', m', e1, hx', e2, PaQ_TmQ hq⟩
    · have e : pT t n (dl + 1) i vs = if pln t n i then .inr ([(0, tW t n i)], i + 1, vs) else .inl i := by
        show pT0 t n i vs _ = _
        unfold pT0
        rw [if_neg c4, if_neg c1]
      rw [e]
      exact tt_name H hs hS hX hn h c1
end CPD
