/-! ===== the class at work: join, what it must do ===== -/
theorem zAnd2 {a b : Nat} (ha : a < 256) (hb : b < 256) : zAnd (a : Int) (b : Int) = ((a &&& b : Nat) : Int) ∧ a &&& b < 256 := by
  have hc : a &&& b < 256 := Nat.and_lt_two_pow (n := 8) _ hb
  refine ⟨?_, hc⟩
  show (zI (a : Int) &&& zI (b : Int)).toInt = _
  have e : ((zI (a : Int)).toBitVec &&& (zI (b : Int)).toBitVec).toNat = a &&& b := by
    rw [BitVec.toNat_and, zI_bv (by omega), zI_bv (by omega)]
  show ((zI (a : Int)).toBitVec &&& (zI (b : Int)).toBitVec).toInt = _
  rw [BitVec.toInt_eq_toNat_of_lt (by rw [e]; omega), e]
/-- the positive conditions from one on are fulfilled by atoms that may be taken -/
def Cmj (pos S0 : List Atm) (gv nw : Int) (lv : Nat) (β : Nat → List Cd) : Prop := ∀ i, lv ≤ i → i < pos.length → ¬ (i : Int) = gv → ∃ a : Nat, a < S0.length ∧ S0.getD a ([], []) = sbA β (pos.getD i ([], [])) ∧ ((i : Int) < gv → (a : Int) ≤ nw - 1) ∧ (a : Int) ≤ nw
/-- bindings after the first positive conditions, and the given one -/
def BLg (pos : List Atm) (b : Nat → Option (List Cd)) (gv : Int) (lv : Nat) (S : List Atm) : Prop := (∀ i, i < pos.length → (i < lv ∨ (i : Int) = gv) → (∀ q, q ∈ (pos.getD i ([], [])).2 → ∀ c, c ∈ q → 5 ≤ c.1 → ¬ b (c.1 - 5) = none) ∧ ∀ β, Gb β → Ext b β → sbA β (pos.getD i ([], [])) ∈ S) ∧ ∀ v, ¬ b v = none → v < 8
/-- the class's state while layer k is worked out -/
def EvC (X : Int → List Int → Prop) (W : Int → Nat) (s : Nat) (rs : List Rul) (B : List Atm → Prop) (lev : List Int → Nat) (k C0 : Nat) (m : PM) (q T : Nat) (S : List Atm) : Prop := CwW X W s rs m q T S ∧ ((∃ B', B B') ∧ ∀ B', B B' → Prt rs B' lev k S) ∧ (∀ a, a ∈ S → lev a.1 ≤ k ∧ ∀ p, p ∈ a.2 → tlC p ≤ 48 ∧ NeC p) ∧ T ≤ C0 + 44 * S.length
/-- what joining writes -/
abbrev WJn (q c : Nat) (j : Int) : Prop := WCo q c j ∨ c = 83 ∨ (c = 70 ∧ j = 8)
section CJ1
variable {d : Nat} {μ : am_Mem} {l : PM} {Q : Option Value ⊕ Nat → am_Mem → Prop} {X : Int → List Int → Prop} {W : Int → Nat} {q s T k C0 : Nat} {rs : List Rul} {B : List Atm → Prop} {S S0 : List Atm} {lev : List Int → Nat} {b : Nat → Option (List Cd)}
theorem BLg_v {pos : List Atm} {gv : Int} (h : BLg pos b gv pos.length S) : BLv pos b pos.length S := ⟨fun i hi => (h.1 i hi (Or.inl hi)).1, fun β hβ he i hi => (h.1 i hi (Or.inl hi)).2 β hβ he, h.2⟩
theorem BLg_x {pos : List Atm} {gv : Int} {lv : Nat} {S' : List Atm} (hx : ∀ a, a ∈ S → a ∈ S') (h : BLg pos b gv lv S) : BLg pos b gv lv S' := ⟨fun i hi hl => ⟨(h.1 i hi hl).1, fun β hβ he => hx _ ((h.1 i hi hl).2 β hβ he)⟩, h.2⟩
/-- all variables of a condition are bound -/
theorem bd_bits {m : PM} {cs : List Cd} (hbt : BtB m b) (hv : vmC cs < 256) : ∃ u : Nat, u < 256 ∧ zAnd (vmC cs : Int) (zXor (m 70 8) (-1)) = (u : Int) ∧ (∀ v, u.testBit v = true ↔ ((∃ c, c ∈ cs ∧ c.1 = 5 + v) ∧ (v < 8 → b v = none))) ∧ (u = 0 ↔ ∀ c, c ∈ cs → 5 ≤ c.1 → c.1 < 13 → ¬ b (c.1 - 5) = none) := by
  obtain ⟨Bt, h1, h2, h3⟩ := hbt
  obtain ⟨u, u1, u2, u3⟩ := zAndNot hv h1
  have hb8 : ∀ v, 8 ≤ v → Bt.testBit v = false := fun v hv => Nat.testBit_lt_two_pow (Nat.lt_of_lt_of_le h1 (Nat.pow_le_pow_right (by decide) hv : 2 ^ 8 ≤ 2 ^ v))
  have key : ∀ v, u.testBit v = true ↔ ((∃ c, c ∈ cs ∧ c.1 = 5 + v) ∧ (v < 8 → b v = none)) := fun v => by
    rw [u3, Bool.and_eq_true, vmC_bit, Bool.not_eq_true']
    constructor
    · rintro ⟨a1, a2⟩
      refine ⟨a1, fun h8 => Classical.byContradiction fun z => ?_⟩
      rw [(h3 v h8).mpr z] at a2
      exact absurd a2 (by decide)
    · rintro ⟨a1, a2⟩
      refine ⟨a1, ?_⟩
      by_cases h8 : v < 8
      · cases e : Bt.testBit v with
        | false => rfl
        | true => exact absurd (a2 h8) ((h3 v h8).mp e)
      · exact hb8 v (by omega)
  refine ⟨u, u1, by rw [h2]; exact u2, key, ?_⟩
  constructor
  · intro e c hc h5 h13 z
    have t := (key (c.1 - 5)).mpr ⟨⟨c, hc, by omega⟩, fun _ => z⟩
    rw [e, Nat.zero_testBit] at t
    exact absurd t (by decide)
  · intro h
    refine Nat.eq_of_testBit_eq fun v => ?_
    rw [Nat.zero_testBit]
    cases e : u.testBit v with
    | false => rfl
    | true =>
      obtain ⟨⟨c, hc, e5⟩, hn⟩ := (key v).mp e
      have hb := (vmC_bit cs v).mpr ⟨c, hc, e5⟩
      have h8 : v < 8 := Classical.byContradiction fun z => by
        rw [Nat.testBit_lt_two_pow (Nat.lt_of_lt_of_le hv (Nat.pow_le_pow_right (by decide) (by omega) : 2 ^ 8 ≤ 2 ^ v))] at hb
        exact absurd hb (by decide)
      have := h c hc (by omega) (by omega)
      rw [show c.1 - 5 = v by omega] at this
      exact absurd (hn h8) this
/-- all positive conditions are fulfilled: the rule is concluded -/
theorem jn_fire {m : PM} {r : Nat} (hS : ShW s μ q) (hs : s = 22 ∨ s = 42) (hr : r < rs.length) (hL : LvO lev rs) (hC : C0 + 45000 ≤ 58192) (hk : lev (rs.getD r ruD).1.1 = k) (hneg : ∀ c, c ∈ (rs.getD r ruD).2 → c.1 = 2 → lev c.2.1 < k) (hF : RuF (rs.getD r ruD) (posR (rs.getD r ruD))) (hE : EvC X W s rs B lev k C0 m q T S) (e9 : m 70 9 = (r : Int)) (hx : ExS lev k S0 S) (hb : BdC X q m T b) (hBL : BLv (posR (rs.getD r ruD)) b (posR (rs.getD r ruD)).length S)
    (hret : ∀ (μ' : am_Mem) (m' l' : PM) (q' T' : Nat) (S' : List Atm), Kst X (WCo q) T μ q m l μ' q' m' l' → T ≤ T' → EvC X W s rs B lev k C0 m' q' T' S' → ExS lev k S S' → (∀ β, Gb β → Ext b β → Dn (rs.getD r ruD) S0 S' β) → Q (.inl none) (sA μ' m' l'))
    (hthr : ∀ (μ' : am_Mem) (m' l' : PM) (q' T' : Nat), (∀ B', B B' → ¬ ∃ S', EvG rs B' S') → Kst X (WCo q) T μ q m l μ' q' m' l' → T ≤ T' → T' ≤ C0 + 45000 → CwW X W s rs m' q' T' S → Q (.inr 3) (sA (am_nX μ') m' l')) :
    Wp (d + 3) 40 (0, [some (.ref 70), none, none, none, none, none], [], sA μ m l) Q := by
  obtain ⟨hw, hP, h48, hTb⟩ := id hE
  generalize hpos' : posR (rs.getD r ruD) = pos at hF hBL
  have hS1000 := hw.2.2.2.2.2.1.2.1
  have hgb := BdC_g hb
  have hβ : Gb (fulB b) := fulB_g hgb
  have hex := fulB_e b
  have hpos : ∀ i, i < pos.length → sbA (fulB b) (pos.getD i ([], [])) ∈ S := fun i hi => hBL.2.1 _ hβ hex i hi
  have vr : ∀ p, VrP pos p → ∀ c, c ∈ p → 5 ≤ c.1 → ¬ b (c.1 - 5) = none := fun p hp c hc h5 => by
    obtain ⟨c1, i, hi, q, hq, c', hc', e⟩ := hp c hc h5
    have z := hBL.1 i hi q hq c' hc' (by omega)
    rw [e] at z
    exact z
  have bd : ∀ ps : List (List Cd), (∀ p, p ∈ ps → VrP pos p) → bdC b ps.flatten := fun ps h c hc h5 => by
    obtain ⟨p, hp, hcp⟩ := List.mem_flatten.mp hc
    have z := vr p (h p hp) c hcp h5
    cases e : b (c.1 - 5) with
    | none => exact absurd e z
    | some p => exact ⟨p, rfl⟩
  have ag : ∀ β, Ext b β → ∀ p, VrP pos p → ∀ c, c ∈ p → 5 ≤ c.1 → β (c.1 - 5) = fulB b (c.1 - 5) := fun β he p hp c hc h5 => by
    have z := vr p hp c hc h5
    cases e : b (c.1 - 5) with
    | none => exact absurd e z
    | some q => rw [he _ _ e, hex _ _ e]
  have bnd48 : ∀ p, VrP pos p → ∀ c, c ∈ p → 5 ≤ c.1 → (0 ≤ tlC (fulB b (c.1 - 5)) ∧ tlC (fulB b (c.1 - 5)) ≤ 48) ∧ NeC (fulB b (c.1 - 5)) := fun p hp c hc h5 => by
    obtain ⟨c1, i, hi, q, hq, c', hc', e⟩ := hp c hc h5
    have hm := (h48 _ (hpos i hi)).2 (sbC (fulB b) q) (List.mem_map.mpr ⟨q, hq, rfl⟩)
    have z := sb_tl_v (β := fulB b) q c' hc' (by omega)
    rw [e] at z
    refine ⟨⟨tl_0 _, by omega⟩, fun x hx' h5' => ?_⟩
    refine hm.2 x (sb_var hc' (by omega) ?_) h5'
    rw [e]
    exact hx'
  have oth : ∀ β, Ext b β → ((∀ c, c ∈ (rs.getD r ruD).2 → Oth β S0 c) ↔ ∀ c, c ∈ (rs.getD r ruD).2 → Oth (fulB b) S c) := fun β he => by
    constructor
    · intro h c hc
      refine (Oth_st hx (hneg c hc)).mpr ((Oth_ag (hF.2.2.2.2 c hc) (fun e p hp => ?_)).mp (h c hc))
      exact ag β he p (hF.2.1 c hc e p hp)
    · intro h c hc
      refine (Oth_ag (hF.2.2.2.2 c hc) (fun e p hp => ?_)).mpr ((Oth_st hx (hneg c hc)).mp (h c hc))
      exact ag β he p (hF.2.1 c hc e p hp)
  have hdA : ∀ β, Ext b β → sbA β (rs.getD r ruD).1 = sbA (fulB b) (rs.getD r ruD).1 := fun β he => sbA_agree (fun p hp => ag β he p (hF.1 p hp).1)
  have rsn : (∀ c, c ∈ (rs.getD r ruD).2 → Oth (fulB b) S c) → ∀ B', Rsn rs B' lev k S (sbA (fulB b) (rs.getD r ruD).1) := fun ho B' => by
    refine Or.inr ⟨rs.getD r ruD, (mem_gD rs ruD _).mpr ⟨r, hr, rfl⟩, fulB b, hβ, rfl, fun c hc => ⟨fun e => ?_, fun e z => ?_, (ho c hc).2⟩⟩
    · obtain ⟨i, hi, ei⟩ := hF.2.2.2.1 c hc e
      rw [← ei]
      exact hpos i hi
    · rcases z with z | z
      · exact (ho c hc).1 e z
      · have := hneg c hc e
        rw [sbA_1] at z
        omega
  have hkA : k ≤ lev (sbA (fulB b) (rs.getD r ruD).1).1 := Nat.le_of_eq hk.symm
  have hNe : ∀ p, p ∈ (rs.getD r ruD).1.2 → NeC (sbC (fulB b) p) := fun p hp => sb_ne (hF.1 p hp).2.1 (fun c hc h5 => (bnd48 p (hF.1 p hp).1 c hc h5).2)
  refine k_conclude hS hs hr hw e9 hb (fun c hc e => bd _ (fun p hp => hF.2.1 c hc e p hp)) (bd _ (fun p hp => (hF.1 p hp).1)) (by omega) hNe (fun p hp => ?_) (fun μ' m' l' q' hno hK hW' => ?_) (fun μ' m' l' q' ho hm hK hW' => ?_) (fun μ' m' l' q' T' ho hlen hno hlt t1 t2 hK hW' => ?_) (fun μ' m' l' q' T' ho hbad t1 t2 hK hW' => ?_)
  · have hp4 := hF.1 p hp
    have z := sb_tl (β := fulB b) p (fun c hc h5 => (bnd48 p hp4.1 c hc h5).1)
    exact ⟨tl_0 _, by omega⟩
  · exact hret μ' m' l' q' T S hK (Nat.le_refl _) ⟨hW', hP, h48, hTb⟩ ExS_r (fun β hβ' he ho => absurd ((oth β he).mp ho) hno)
  · exact hret μ' m' l' q' T S hK (Nat.le_refl _) ⟨hW', hP, h48, hTb⟩ ExS_r (fun β hβ' he ho => by rw [hdA β he]; exact hm)
  · have hlS : (S ++ [sbA (fulB b) (rs.getD r ruD).1]).length = S.length + 1 := by rw [List.length_append, List.length_singleton]
    refine hret μ' m' l' q' T' (S ++ [sbA (fulB b) (rs.getD r ruD).1]) hK t1 ⟨hW', ⟨hP.1, fun B' hB' => Prt_add hL (hP.2 B' hB') hkA hno (rsn ho B')⟩, fun a ha => ?_, by rw [hlS]; omega⟩ ⟨[sbA (fulB b) (rs.getD r ruD).1], rfl, fun a ha => by rw [List.mem_singleton.mp ha]; exact hkA⟩ (fun β hβ' he _ => by rw [hdA β he]; simp)
    rcases List.mem_append.mp ha with ha | ha
    · exact h48 a ha
    · rw [List.mem_singleton.mp ha]
      refine ⟨Nat.le_of_eq hk, fun p hp => ⟨hlen p hp, ?_⟩⟩
      obtain ⟨p', q1, q2⟩ := List.mem_map.mp (show p ∈ (rs.getD r ruD).1.2.map (sbC (fulB b)) from hp)
      rw [← q2]
      exact hNe p' q1
  · refine hthr μ' m' l' q' T' ?_ hK t1 (by omega) hW'
    intro B' hB'
    rcases hbad with hlong | ⟨hno, h1000⟩
    · exact Prt_long hL (hP.2 B' hB') hkA (rsn ho B') hlong
    · exact Prt_many hL (hP.2 B' hB') hkA hno (rsn ho B') (by omega)
end CJ1
