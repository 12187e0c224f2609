/-! ===== the class's model: fits, whole ===== -/
section CFJ
variable {d : Nat} {μ : am_Mem} {l : PM} {Q : Option Value ⊕ Nat → am_Mem → Prop} {X : Int → List Int → Prop} {q N P S s : Nat}
theorem k_fits {m0 : PM} {k n f T : Nat} {Lb : Int → Prop} {ps qs : List (List Cd)} {b : Nat → Option (List Cd)} (H : CS μ) (TS_ : TS μ q N P S) (hq : TQ q N P S) (hs : s = 22 ∨ s = 42) (h2 : am_F μ 70 2 = s) (hX : XP X) (hX2 : ∀ x w, X x w → x < 1024) (hk : k < n) (hn : n ≤ 1000) (hlow : 0 ≤ (k : Int) - (ps.flatten.length : Int)) (hnd : NdC X s 11 m0 (k : Int) Lb ps) (hvb : vbC ps.flatten) (hT : CtT X q N S m0 T) (hG : GrI X q s m0 T n) (hb : BdC X q m0 T b) (hbt : BtB m0 b) (hf : f < 1000) (hqs : ∀ j : Nat, j < ps.length → ∃ u : Nat, m0 73 (4 * (f : Int) + (j : Int)) = (u : Int) ∧ u < T ∧ Cg X q m0 u (qs.getD j []))
    (hy : ∀ (m' : PM) (b' : Nat → Option (List Cd)), (∀ β, Gb β → (Ext b' β ↔ (Ext b β ∧ ∀ j, j < ps.length → sbC β (ps.getD j []) = qs.getD j []))) → (∀ v, ¬ b' v = none ↔ (¬ b v = none ∨ ∃ c, c ∈ ps.flatten ∧ c.1 = 5 + v)) → BdC X q m' T b' → BtB m' b' → (∀ c j, ¬ WFx c j → m' c j = m0 c j) → Q (.inl (some (.int (zI 1)))) (sA μ m' l))
    (hn' : ∀ m' : PM, (∀ β, Gb β → Ext b β → ¬ ∀ j, j < ps.length → sbC β (ps.getD j []) = qs.getD j []) → BdC X q m' T b → (∀ c j, ¬ WFx c j → m' c j = m0 c j) → Q (.inl (some (.int (zI 0)))) (sA μ m' l)) :
    Wp d 43 (0, [some (.ref 70), some (.int (zI (k : Int))), some (.int (zI (f : Int))), none, none, none, none], [], sA μ m0 l) Q := by
  obtain ⟨n1, n2, n3, n4, n5, n6⟩ := id hnd
  have hTN := hT.1.2.1
  have hall : ∀ β, AllM β ((kz ps qs ps.length).reverse ++ []) ↔ (∀ j, j < ps.length → sbC β (ps.getD j []) = qs.getD j []) := fun β => by
    rw [List.append_nil]
    constructor
    · intro h j hj
      exact h (ps.getD j [], qs.getD j []) (List.mem_reverse.mpr (kz_m.mpr ⟨j, hj, rfl⟩))
    · intro h pr hp
      obtain ⟨j, hj, ej⟩ := kz_m.mp (List.mem_reverse.mp hp)
      rw [ej]
      exact h j hj
  have hvr : ∀ v, VrL ((kz ps qs ps.length).reverse ++ []) v ↔ ∃ c, c ∈ ps.flatten ∧ c.1 = 5 + v := fun v => by
    rw [List.append_nil]
    constructor
    · rintro ⟨pr, hp, c, hc, e⟩
      obtain ⟨j, hj, ej⟩ := kz_m.mp (List.mem_reverse.mp hp)
      rw [ej] at hc
      refine ⟨c, List.mem_flatten.mpr ⟨ps.getD j [], ?_, hc⟩, e⟩
      rw [List.getD_eq_getElem?_getD, List.getElem?_eq_getElem hj]
      exact List.getElem_mem hj
    · rintro ⟨c, hc, e⟩
      obtain ⟨p', g1, g2⟩ := List.mem_flatten.mp hc
      obtain ⟨j, hj, ej⟩ := mem_gD2 g1
      exact ⟨(ps.getD j [], qs.getD j []), List.mem_reverse.mpr (kz_m.mpr ⟨j, hj, rfl⟩), c, by rw [ej]; exact g2, e⟩
  have lay : ∀ (g j : Nat) (m1 : PM), j + g = ps.length → (∀ c y, ¬ c = 82 → m1 c y = m0 c y) → (∀ j' : Nat, j' < j → ∃ u : Nat, m1 82 (m0 (s + 8) (4 * (k : Int) + (j' : Int))) = (u : Int) ∧ u < T ∧ Cg X q m0 u (qs.getD j' [])) → Wp d 43 (2, [some (.ref 70), some (.int (zI (k : Int))), some (.int (zI (f : Int))), some (.int (zI (j : Int))), none, none, none], [], sA μ m1 l) Q := by
    intro g
    induction g with
    | zero =>
      intro j m1 hj f1 hm1
      have e7' : m1 (s + 7) (k : Int) = (ps.length : Int) := by rw [f1 _ _ (by omega)]; exact n2
      have fr1 : ∀ c y, ¬ WFx c y → m1 c y = m0 c y := fun c y z => f1 c y (fun e => z (Or.inl e))
      refine K43_2 H TS_ hq hs h2 ⟨⟨by omega, by omega⟩, ⟨by omega, by omega⟩, by rw [e7']; exact ⟨by omega, by omega⟩, fun _ => ?_, fun z => by rw [e7'] at z; omega⟩
      have hpn := PnC_parts (X := X) (s := s) (q := q) (m0 := m0) (m := m1) (T := T) (lo := (k : Int) - (ps.flatten.length : Int)) (qs := qs) (L := []) (Nat.le_refl 11) n6 hvb (fun j' hj' => hm1 j' (by omega)) (show (k : Int) - (ps.flatten.length : Int) - 1 + 1 = (k : Int) - (ps.flatten.length : Int) by omega) ps.length (Nat.le_refl _)
      rw [List.take_length, show (k : Int) - (ps.flatten.length : Int) + (ps.flatten.length : Int) - 1 = (k : Int) - 1 by omega] at hpn
      have hB1 : BdC X q m1 T b := fun v cs hv => by
        obtain ⟨g0, u', g1, g2, g3⟩ := hb v cs hv
        exact ⟨g0, u', by rw [f1 _ _ (by decide)]; exact g1, g2, Cg_wi hq fr1 g3⟩
      have hbt1 : BtB m1 b := by
        obtain ⟨B, g1, g2, g3⟩ := hbt
        exact ⟨B, g1, by rw [f1 _ _ (by decide)]; exact g2, g3⟩
      refine fi_56 (m0 := m0) H TS_ hq hs h2 hX hX2 hk hn n4 ⟨hlow, by omega⟩ hT hG _ _ _ m1 b _ _ _ Q (Nat.le_refl _) (by omega) hpn hB1 hbt1 fr1 (fun m' b' g1 g2 g3 g4 g5 => hy m' b' (fun β hβ => ?_) (fun v => ?_) g3 g4 g5) (fun m' g1 g2 g3 => hn' m' (fun β hβ hx h => g1 β hβ hx ((hall β).mpr h)) g2 g3)
      · rw [g1 β hβ, hall β]
      · rw [g2 v, hvr v]
    | succ g ihg =>
      intro j m1 hj f1 hm1
      have hjl : j < ps.length := by omega
      have e7' : m1 (s + 7) (k : Int) = (ps.length : Int) := by rw [f1 _ _ (by omega)]; exact n2
      obtain ⟨x, x1, x2', x3, x4, _⟩ := PcR_at ps 0 _ n6 j hjl
      have x5 := TcR_ln x4
      rw [show ((0 + j : Nat) : Int) = (j : Int) by omega] at x1
      have e8 : m1 (s + 8) (4 * (k : Int) + (j : Int)) = x := by rw [f1 _ _ (by omega)]; exact x1
      obtain ⟨u', g1, g2, g3⟩ := hqs j hjl
      have eq2 : m1 73 (4 * (f : Int) + (j : Int)) = (u' : Int) := by rw [f1 _ _ (by decide)]; exact g1
      refine K43_2 H TS_ hq hs h2 ⟨⟨by omega, by omega⟩, ⟨by omega, by omega⟩, by rw [e7']; exact ⟨by omega, by omega⟩, fun z => by rw [e7'] at z; omega, fun _ => ⟨⟨by omega, by omega⟩, ⟨by omega, by omega⟩, by rw [e8]; exact ⟨by omega, by omega⟩, ?_⟩⟩
      rw [e8, eq2]
      rintro m2 e2
      have go := ihg (j + 1) m2 (by omega) (fun c y z => by rw [e2, up_c z]; exact f1 c y z) (fun j' hj' => by
        by_cases y : j' = j
        · rw [y, x1, e2, up_s]
          exact ⟨u', rfl, g2, g3⟩
        · obtain ⟨v', r1, r2, r3⟩ := hm1 j' (by omega)
          refine ⟨v', ?_, r2, r3⟩
          have a1 := PcR_pos ps 0 _ n6 j' (by omega)
          have a2 := PcR_pos ps 0 _ n6 j hjl
          rw [show ((0 + j' : Nat) : Int) = (j' : Int) by omega] at a1
          rw [show ((0 + j : Nat) : Int) = (j : Int) by omega] at a2
          have hlt := take_lt ps (j' + 1) (j + 1) (by omega) (by omega) (fun p' hp' => by
            obtain ⟨i', hi', ei'⟩ := mem_gD2 hp'
            obtain ⟨_, _, _, _, y4', _⟩ := PcR_at ps 0 _ n6 i' hi'
            rw [← ei']
            exact TcR_ln y4')
          rw [e2, up_i (by omega)]
          exact r1)
      rw [show ((j + 1 : Nat) : Int) = (j : Int) + 1 by omega] at go
      exact go
  exact K43_0 H TS_ hq hs h2 (lay ps.length 0 m0 (by omega) (fun _ _ _ => rfl) (fun j' hj' => absurd hj' (Nat.not_lt_zero j')))
end CFJ
