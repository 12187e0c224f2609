/-! ===== the class's findWord, findUnsafe ===== -/
theorem vmC_bit : ∀ (cs : List Cd) (i : Nat), (vmC cs).testBit i = true ↔ ∃ c, c ∈ cs ∧ c.1 = 5 + i := by
  intro cs
  induction cs with
  | nil =>
    intro i
    show (0 : Nat).testBit i = true ↔ _
    rw [Nat.zero_testBit]
    exact ⟨fun z => absurd z (by decide), fun ⟨c, hc, _⟩ => absurd hc List.not_mem_nil⟩
  | cons c cs ih =>
    intro i
    show ((if 5 ≤ c.1 then 2 ^ (c.1 - 5) else 0) ||| vmC cs).testBit i = true ↔ _
    rw [Nat.testBit_or, Bool.or_eq_true, ih i]
    have hb : (if 5 ≤ c.1 then 2 ^ (c.1 - 5) else 0).testBit i = true ↔ c.1 = 5 + i := by
      by_cases h : 5 ≤ c.1
      · rw [if_pos h, Nat.testBit_two_pow, decide_eq_true_iff]
        omega
      · rw [if_neg h, Nat.zero_testBit]
        exact ⟨fun z => absurd z (by decide), fun z => by omega⟩
    rw [hb]
    constructor
    · rintro (z | ⟨d, hd, z⟩)
      · exact ⟨c, by simp, z⟩
      · exact ⟨d, by simp [hd], z⟩
    · rintro ⟨d, hd, z⟩
      rcases List.mem_cons.mp hd with e | e
      · rw [e] at z; exact Or.inl z
      · exact Or.inr ⟨d, e, z⟩
theorem vmC_0 (cs : List Cd) : vmC cs = 0 ↔ ¬ ∃ c, c ∈ cs ∧ 5 ≤ c.1 := by
  constructor
  · rintro h ⟨c, hc, h5⟩
    have z := (vmC_bit cs (c.1 - 5)).mpr ⟨c, hc, by omega⟩
    rw [h, Nat.zero_testBit] at z
    exact absurd z (by decide)
  · intro h
    by_cases q : vmC cs = 0
    · exact q
    · obtain ⟨i, hi⟩ := Nat.exists_testBit_of_ne_zero q
      obtain ⟨c, hc, e⟩ := (vmC_bit cs i).mp hi
      exact absurd ⟨c, hc, by omega⟩ h
theorem vmC_lt : ∀ (cs : List Cd), (∀ c, c ∈ cs → 5 ≤ c.1 → c.1 < 13) → vmC cs < 256 := by
  intro cs
  induction cs with
  | nil => intro _; decide
  | cons c cs ih =>
    intro h
    refine Nat.or_lt_two_pow (n := 8) ?_ (ih fun d hd => h d (by simp [hd]))
    by_cases h5 : 5 ≤ c.1
    · rw [if_pos h5]
      have := h c (by simp) h5
      exact Nat.pow_lt_pow_right (by decide) (by omega)
    · rw [if_neg h5]; decide
theorem atV_fl (a : Atm) : atV a ↔ ∃ c, c ∈ a.2.flatten ∧ 5 ≤ c.1 := by
  constructor
  · rintro ⟨p, hp, c, hc, h5⟩
    exact ⟨c, List.mem_flatten.mpr ⟨p, hp, hc⟩, h5⟩
  · rintro ⟨c, hc, h5⟩
    obtain ⟨p, hp, hcp⟩ := List.mem_flatten.mp hc
    exact ⟨p, hp, c, hcp, h5⟩
theorem atW_fl (a : Atm) (v : Nat) : atW a v ↔ (vmC a.2.flatten).testBit v = true := by
  rw [vmC_bit]
  constructor
  · rintro ⟨p, hp, c, hc, h5⟩
    exact ⟨c, List.mem_flatten.mpr ⟨p, hp, hc⟩, h5⟩
  · rintro ⟨c, hc, h5⟩
    obtain ⟨p, hp, hcp⟩ := List.mem_flatten.mp hc
    exact ⟨p, hp, c, hcp, h5⟩
theorem okA_lt {a : Atm} (ok : OkA a) : vmC a.2.flatten < 256 := vmC_lt _ fun c hc h5 => by
  obtain ⟨p, hp, hcp⟩ := List.mem_flatten.mp hc
  exact (wfT_ok 11 p (ok.2 p hp) c hcp h5).2
theorem nand_eq {a b : Nat} (ha : a < 256) : a &&& (b ^^^ (2 ^ 32 - 1)) = a &&& ((2 ^ 8 - 1) ^^^ b) := by
  apply Nat.eq_of_testBit_eq
  intro i
  rw [Nat.testBit_and, Nat.testBit_and, Nat.testBit_xor, Nat.testBit_xor, Nat.testBit_two_pow_sub_one, Nat.testBit_two_pow_sub_one]
  by_cases h : i < 8
  · rw [decide_eq_true (show i < 32 by omega), decide_eq_true h, Bool.xor_comm]
  · have z : a.testBit i = false := Nat.testBit_lt_two_pow (Nat.lt_of_lt_of_le ha (Nat.pow_le_pow_right (by decide) (by omega) : 2 ^ 8 ≤ 2 ^ i))
    rw [z, Bool.false_and, Bool.false_and]
theorem zAndNot {a b : Nat} (ha : a < 256) (hb : b < 256) : ∃ c : Nat, c < 256 ∧ zAnd (a : Int) (zXor (b : Int) (-1)) = (c : Int) ∧ ∀ i, c.testBit i = (a.testBit i && !b.testBit i) := by
  have hc : a &&& ((2 ^ 8 - 1) ^^^ b) < 256 := Nat.and_lt_two_pow (n := 8) _ (Nat.xor_lt_two_pow (by decide) hb)
  refine ⟨a &&& ((2 ^ 8 - 1) ^^^ b), hc, ?_, fun i => ?_⟩
  · show (zI (a : Int) &&& zI ((zI (b : Int) ^^^ zI (-1)).toInt)).toInt = _
    rw [zI_rev]
    have e : ((zI (a : Int)).toBitVec &&& ((zI (b : Int)).toBitVec ^^^ (zI (-1)).toBitVec)).toNat = a &&& ((2 ^ 8 - 1) ^^^ b) := by
      rw [BitVec.toNat_and, BitVec.toNat_xor, zI_bv (by omega), zI_bv (by omega), show (zI (-1)).toBitVec.toNat = 2 ^ 32 - 1 by decide, nand_eq ha]
    show ((zI (a : Int)).toBitVec &&& ((zI (b : Int)).toBitVec ^^^ (zI (-1)).toBitVec)).toInt = _
    rw [BitVec.toInt_eq_toNat_of_lt (by rw [e]; omega), e]
  · rw [Nat.testBit_and, Nat.testBit_xor, Nat.testBit_two_pow_sub_one]
    by_cases h : i < 8
    · rw [decide_eq_true h, Bool.true_xor]
    · have z : a.testBit i = false := Nat.testBit_lt_two_pow (Nat.lt_of_lt_of_le ha (Nat.pow_le_pow_right (by decide) (by omega) : 2 ^ 8 ≤ 2 ^ i))
      rw [z, Bool.false_and, Bool.false_and]
/-- a condition of init or next -/
def cmg (c : Nat × Atm) : Prop := c.2.1 = wdL.getD 3 [] ∨ c.2.1 = wdL.getD 7 []
/-- the head is bad -/
def HB (ru : Rul) : Prop := ru.1.1 = wdL.getD 4 [] ∨ ru.1.1 = wdL.getD 5 [] ∨ (ru.1.1 = wdL.getD 2 [] ∧ (¬ ru.2 = [] ∨ atV ru.1))
theorem bad3_iff (rs : List Rul) (r : Nat) : Bad3 rs r ↔ ((HB (rs.getD r ruD) ∨ ∃ i, i < (psC (rs.getD r ruD).2).length ∧ cmg ((psC (rs.getD r ruD).2).getD i cnD)) ∨ ∃ i, i < (otC (rs.getD r ruD).2).length ∧ cmg ((otC (rs.getD r ruD).2).getD i cnD)) := by
  rw [ex_ps (P := cmg), ex_ot (P := cmg)]
  unfold Bad3 HB cmg
  constructor
  · rintro (h | h | h | ⟨c, hc, h⟩)
    · exact Or.inl (Or.inl (Or.inl h))
    · exact Or.inl (Or.inl (Or.inr (Or.inl h)))
    · exact Or.inl (Or.inl (Or.inr (Or.inr h)))
    · by_cases c1 : c.1 = 1
      · exact Or.inl (Or.inr ⟨c, hc, c1, h⟩)
      · exact Or.inr ⟨c, hc, c1, h⟩
  · rintro (((h | h | h) | ⟨c, hc, _, h⟩) | ⟨c, hc, _, h⟩)
    · exact Or.inl h
    · exact Or.inr (Or.inl h)
    · exact Or.inr (Or.inr (Or.inl h))
    · exact Or.inr (Or.inr (Or.inr ⟨c, hc, h⟩))
    · exact Or.inr (Or.inr (Or.inr ⟨c, hc, h⟩))
section CWW
variable {d : Nat} {μ : am_Mem} {l : PM} {s : Nat} {X : Int → List Int → Prop} {rs : List Rul}
theorem rel_cmg {m : PM} (h : KV X s m rs) {r : Nat} (hr : r < rs.length) {k : Int} {c : Nat × Atm} (hc : c ∈ (rs.getD r ruD).2) (hA : AtC X s m (m s 6) k c) : (m (s + 6) k = 1 ∨ m (s + 6) k = 3) ↔ cmg c := by
  obtain ⟨q1, q2, q3, q4, q5, q6⟩ := KV_cond h hr hc hA
  by_cases c3 : c.1 = 3
  · have e9 := q4 c3
    have e2 : c.2.1 = [] := by
      rcases q1.2 with y | y | y
      · omega
      · omega
      · exact y.2.1
    rw [e9]
    unfold cmg
    rw [e2]
    constructor
    · intro z; omega
    · rintro (z | z)
      · exact absurd z (wd_ne ⟨3, by decide⟩)
      · exact absurd z (wd_ne ⟨7, by decide⟩)
  · have hlt : c.1 < 3 := by
      rcases q1.2 with y | y | y
      · omega
      · omega
      · exact absurd y.1 c3
    have hx := (q5 hlt).1
    exact or_congr (KV_word h hx (k := 1) (by decide)) (KV_word h hx (k := 3) (by decide))
/-- one more of a row of conditions -/
theorem cm_step {A : Prop} {L : List (Nat × Atm)} {j : Nat} {x v b : Int} (hb : (b = 1 ∨ b = 3) ↔ cmg (L.getD j cnD)) (e : x = bP (A ∨ ∃ i, i < j ∧ cmg (L.getD i cnD))) (e1 : v = (if ¬ x = 0 then (1 : Int) else if (bP (b = 1 ∨ b = 3)) = 0 then (0 : Int) else 1)) : v = bP (A ∨ ∃ i, i < j + 1 ∧ cmg (L.getD i cnD)) := by
  refine or_step (P := fun i => cmg (L.getD i cnD)) (w := cmg (L.getD j cnD)) e (fun y ey => ?_) Iff.rfl
  rw [ey, e1]
  refine ⟨fun z => by rw [if_pos z], fun z => ?_⟩
  rw [if_neg (not_not_intro z)]
  by_cases c : b = 1 ∨ b = 3
  · rw [if_neg (by rw [bP_1 c]; decide)]
    exact ⟨⟨fun w => absurd w (by decide), fun w => absurd (hb.mp c) w⟩, ⟨fun _ => hb.mp c, fun _ => rfl⟩⟩
  · rw [if_pos (by rw [bP_0 c])]
    exact ⟨⟨fun _ w => c (hb.mpr w), fun _ => rfl⟩, ⟨fun w => absurd w (by decide), fun w => absurd (hb.mpr w) c⟩⟩
theorem fo_142 {m : PM} {r : Nat} {x2 x3 : Int} {A : Prop} {Q : Option Value ⊕ Nat → am_Mem → Prop} (H : CS μ) (hs : s = 22 ∨ s = 42) (hS : am_F μ 65 1 = s) (hv : KV X s m rs) (hr : r < rs.length) (hq : (¬ (A ∨ ∃ i, i < (otC (rs.getD r ruD).2).length ∧ cmg ((otC (rs.getD r ruD).2).getD i cnD))) → ∀ o2 o3 o4 o5 : Option Value, Wp (d + 2) 4 (2, [some (.ref 65), some (.int (zI ((r : Int) + 1))), o2, o3, o4, o5], [], sA μ m l) Q) (hb : (A ∨ ∃ i, i < (otC (rs.getD r ruD).2).length ∧ cmg ((otC (rs.getD r ruD).2).getD i cnD)) → Q (.inl (some (.int (zI (r : Int))))) (sA μ m l)) : ∀ (f j : Nat) (x4 : Int), j + f = (otC (rs.getD r ruD).2).length → x4 = bP (A ∨ ∃ i, i < j ∧ cmg ((otC (rs.getD r ruD).2).getD i cnD)) → Wp (d + 2) 4 (142, [some (.ref 65), some (.int (zI (r : Int))), some (.int (zI x2)), some (.int (zI x3)), some (.int (zI x4)), some (.int (zI (j : Int)))], [], sA μ m l) Q := by
  obtain ⟨k1, k2, k3, k4, k5, k6⟩ := KV_rule hv hr
  have e16 := k1.2.2.1.1
  intro f
  induction f with
  | zero =>
    intro j x4 hf e4
    have ej : j = (otC (rs.getD r ruD).2).length := by omega
    rw [ej] at e4
    refine K4_142 H hs hS ⟨by omega, by unfold iR; omega, by unfold iR; omega, fun _ => ⟨by rw [e4]; exact bP_R _, fun z => hq (by rw [e4] at z; exact bP_z.mp z) _ _ _ _, fun z => hb (Classical.byContradiction fun w => z (by rw [e4]; exact bP_z.mpr w))⟩, fun z => absurd (by omega) z⟩
  | succ f ih =>
    intro j x4 hf e4
    obtain ⟨p1, p2, p3⟩ := KV_oth hv hr (show j < _ by omega)
    obtain ⟨q1, q2, q3, q4, q5, q6⟩ := KV_cond hv hr p1 p3
    have hrel := rel_cmg hv hr p1 p3
    refine K4_142 H hs hS ⟨by omega, by unfold iR; omega, by unfold iR; omega, fun z => absurd z (by omega), fun _ => ⟨by rw [e4]; exact bP_R _, ⟨fun _ => trivial, fun _ => ⟨by omega, by omega, by unfold iR; omega, trivial⟩⟩, fun v1 e1 => ?_⟩⟩
    rw [show (j : Int) + 1 = ((j + 1 : Nat) : Int) by omega]
    exact ih (j + 1) v1 (by omega) (cm_step hrel e4 e1)
theorem fo_94 {m : PM} {r : Nat} {x2 x3 : Int} {A : Prop} {Q : Option Value ⊕ Nat → am_Mem → Prop} (H : CS μ) (hs : s = 22 ∨ s = 42) (hS : am_F μ 65 1 = s) (hv : KV X s m rs) (hr : r < rs.length) (hq : ∀ x4 : Int, x4 = bP (A ∨ ∃ i, i < (psC (rs.getD r ruD).2).length ∧ cmg ((psC (rs.getD r ruD).2).getD i cnD)) → Wp (d + 2) 4 (142, [some (.ref 65), some (.int (zI (r : Int))), some (.int (zI x2)), some (.int (zI x3)), some (.int (zI x4)), some (.int (zI 0))], [], sA μ m l) Q) : ∀ (f j : Nat) (x4 : Int), j + f = (psC (rs.getD r ruD).2).length → x4 = bP (A ∨ ∃ i, i < j ∧ cmg ((psC (rs.getD r ruD).2).getD i cnD)) → Wp (d + 2) 4 (94, [some (.ref 65), some (.int (zI (r : Int))), some (.int (zI x2)), some (.int (zI x3)), some (.int (zI x4)), some (.int (zI (j : Int)))], [], sA μ m l) Q := by
  obtain ⟨k1, k2, k3, k4, k5, k6⟩ := KV_rule hv hr
  have e13 := k1.2.1.1
  intro f
  induction f with
  | zero =>
    intro j x4 hf e4
    have ej : j = (psC (rs.getD r ruD).2).length := by omega
    rw [ej] at e4
    exact K4_94 H hs hS ⟨by omega, by unfold iR; omega, by unfold iR; omega, fun _ => hq x4 e4, fun z => absurd (by omega) z⟩
  | succ f ih =>
    intro j x4 hf e4
    obtain ⟨p1, p2, p3⟩ := KV_pos hv hr (show j < _ by omega)
    obtain ⟨q1, q2, q3, q4, q5, q6⟩ := KV_cond hv hr p1 p3
    have hrel := rel_cmg hv hr p1 p3
    refine K4_94 H hs hS ⟨by omega, by unfold iR; omega, by unfold iR; omega, fun z => absurd z (by omega), fun _ => ⟨by rw [e4]; exact bP_R _, ⟨fun _ => trivial, fun _ => ⟨by omega, by omega, by unfold iR; omega, trivial⟩⟩, fun v1 e1 => ?_⟩⟩
    rw [show (j : Int) + 1 = ((j + 1 : Nat) : Int) by omega]
    exact ih (j + 1) v1 (by omega) (cm_step hrel e4 e1)
theorem fo_2 {m : PM} {Q : Option Value ⊕ Nat → am_Mem → Prop} (H : CS μ) (hs : s = 22 ∨ s = 42) (hS : am_F μ 65 1 = s) (hv : KV X s m rs) (hq : Q (.inl (some (.int (zI (plc (Bad3 rs) rs.length))))) (sA μ m l)) : ∀ (f r : Nat) (o2 o3 o4 o5 : Option Value), r + f = rs.length → (∀ j, j < r → ¬ Bad3 rs j) → Wp (d + 2) 4 (2, [some (.ref 65), some (.int (zI (r : Int))), o2, o3, o4, o5], [], sA μ m l) Q := by
  obtain ⟨n1, n2, n3, n4⟩ := KV_n hv
  intro f
  induction f with
  | zero =>
    intro r o2 o3 o4 o5 hf h
    refine K4_2 H hs hS ⟨by unfold iR; omega, by unfold iR; omega, fun _ => ?_, fun z => absurd (by omega) z⟩
    rw [plc_none (fun j hj => h j (by omega))] at hq
    exact hq
  | succ f ih =>
    intro r o2 o3 o4 o5 hf h
    have hr : r < rs.length := by omega
    obtain ⟨k1, k2, k3, k4, k5, k6⟩ := KV_rule hv hr
    obtain ⟨a1, a2, a3, a4, a5⟩ := KV_head hv hr
    have e13 := k1.2.1.1
    have e16 := k1.2.2.1.1
    obtain ⟨_, _, _, hvm, _⟩ := ac_nodes a1
    have hvm' : m (s + 10) (m (s + 11) (r : Int)) = (vmC (rs.getD r ruD).1.2.flatten : Int) := hvm
    have hlt := okA_lt a2
    have hav := atV_fl (rs.getD r ruD).1
    have hv0 := vmC_0 (rs.getD r ruD).1.2.flatten
    refine K4_2 H hs hS ⟨by unfold iR; omega, by unfold iR; omega, fun z => absurd z (by omega), fun _ => ⟨by omega, by omega, fun v1 e1 => ⟨by omega, by unfold iR; omega, fun v2 e2 v3 e3 => ⟨⟨fun _ => trivial, fun _ => ⟨by unfold iR; omega, fun _ => trivial, fun _ => ⟨by omega, by rw [hvm']; unfold iR; omega, trivial⟩⟩⟩, fun v4 e4 => ?_⟩⟩⟩⟩
    have w0 := KV_word hv a3 (k := 0) (by decide)
    have w2 := KV_word hv a3 (k := 2) (by decide)
    have w4 := KV_word hv a3 (k := 4) (by decide)
    rw [← e1] at w0 w2 w4
    have hcs : 0 < v2 ↔ ¬ (rs.getD r ruD).2 = [] := by
      have zl : 0 < (rs.getD r ruD).2.length ↔ ¬ (rs.getD r ruD).2 = [] := List.length_pos_iff
      rw [← zl]
      omega
    have ev : v4 = bP (HB (rs.getD r ruD) ∨ ∃ i, i < 0 ∧ cmg ((psC (rs.getD r ruD).2).getD i cnD)) := by
      have e0 : (HB (rs.getD r ruD) ∨ ∃ i, i < 0 ∧ cmg ((psC (rs.getD r ruD).2).getD i cnD)) ↔ HB (rs.getD r ruD) := ⟨fun z => by
        rcases z with z | ⟨i, hi, _⟩
        · exact z
        · exact absurd hi (Nat.not_lt_zero i), fun z => Or.inl z⟩
      rw [bP_cg e0, e4]
      have ne : ∀ {i j : Nat}, i < 10 → j < 10 → ¬ i = j → v1 = (i : Int) → ¬ (rs.getD r ruD).1.1 = wdC.getD j [] := by
        intro i j hi hj hij hv1 z
        have := (KV_word hv a3 hj).mpr z
        omega
      by_cases c0 : v1 = 0
      · rw [if_neg (not_not_intro c0)]
        have nt := ne (i := 0) (j := 2) (by decide) (by decide) (by decide) c0
        have nd := ne (i := 0) (j := 4) (by decide) (by decide) (by decide) c0
        have hro := w0.mp c0
        by_cases c2 : 0 < v2
        · rw [if_pos c2, bP_1]
          exact Or.inr (Or.inr ⟨hro, Or.inl (hcs.mp c2)⟩)
        · rw [if_neg c2]
          by_cases cv : m (s + 10) (m (s + 11) (r : Int)) = 0
          · rw [if_pos cv, bP_0]
            rintro (z | z | z)
            · exact nt z
            · exact nd z
            · rcases z.2 with y | y
              · exact c2 (hcs.mpr y)
              · exact hv0.mp (by omega) (hav.mp y)
          · rw [if_neg cv, bP_1]
            refine Or.inr (Or.inr ⟨hro, Or.inr (hav.mpr (Classical.byContradiction fun y => cv ?_))⟩)
            rw [hvm', hv0.mpr y]
            rfl
      · rw [if_pos c0, e3]
        by_cases c2 : v1 = 2
        · rw [if_pos c2, bP_1]
          exact Or.inl (w2.mp c2)
        · rw [if_neg c2]
          by_cases c4 : v1 = 4
          · rw [if_neg (not_not_intro c4), bP_1]
            exact Or.inr (Or.inl (w4.mp c4))
          · rw [if_pos c4, bP_0]
            rintro (z | z | z)
            · exact c2 (w2.mpr z)
            · exact c4 (w4.mpr z)
            · exact c0 (w0.mpr z.1)
    refine fo_94 H hs hS hv hr (fun x4 ex4 => ?_) (psC (rs.getD r ruD).2).length 0 v4 (Nat.zero_add _) ev
    refine fo_142 (A := HB (rs.getD r ruD) ∨ ∃ i, i < (psC (rs.getD r ruD).2).length ∧ cmg ((psC (rs.getD r ruD).2).getD i cnD)) H hs hS hv hr (fun hn o2 o3 o4 o5 => ?_) (fun hb => ?_) (otC (rs.getD r ruD).2).length 0 x4 (Nat.zero_add _) ?_
    · refine ih (r + 1) _ _ _ _ (by omega) (fun j hj => ?_)
      by_cases c : j = r
      · rw [c]; exact fun w => hn ((bad3_iff rs r).mp w)
      · exact h j (by omega)
    · rw [plc_at hr h ((bad3_iff rs r).mpr hb)] at hq
      exact hq
    · rw [ex4]
      exact bP_cg ⟨fun z => Or.inl z, fun z => by
        rcases z with z | ⟨i, hi, _⟩
        · exact z
        · exact absurd hi (Nat.not_lt_zero i)⟩
/-- findWord -/
theorem k_findWord {m : PM} (H : CS μ) (hs : s = 22 ∨ s = 42) (hS : am_F μ 65 1 = s) (hv : KV X s m rs) : Wp (d + 2) 4 (0, [some (.ref 65), none, none, none, none, none], [], sA μ m l) (pI (fun y μ' => y = zI (plc (Bad3 rs) rs.length) ∧ μ' = sA μ m l) noX) := by
  refine K4_0 H hs hS ?_
  exact fo_2 H hs hS hv ⟨rfl, rfl⟩ rs.length 0 none none none none (Nat.zero_add _) (fun j hj => absurd hj (Nat.not_lt_zero j))
/-- needed variables as bits -/
def NBt (u : Nat) (P : Nat → Prop) : Prop := u < 256 ∧ ∀ i, u.testBit i = true ↔ P i
theorem fu_74 {m : PM} {r : Nat} {P : Nat → Prop} {Q : Option Value ⊕ Nat → am_Mem → Prop} (H : CS μ) (hs : s = 22 ∨ s = 42) (hS : am_F μ 65 1 = s) (hv : KV X s m rs) (hr : r < rs.length) (hq : (¬ ∃ i, P i ∧ ¬ ∃ q, q < (psC (rs.getD r ruD).2).length ∧ atW ((psC (rs.getD r ruD).2).getD q cnD).2 i) → ∀ o2 o3 : Option Value, Wp (d + 2) 13 (2, [some (.ref 65), some (.int (zI ((r : Int) + 1))), o2, o3], [], sA μ m l) Q) (hb : (∃ i, i < 8 ∧ P i ∧ ¬ ∃ q, q < (psC (rs.getD r ruD).2).length ∧ atW ((psC (rs.getD r ruD).2).getD q cnD).2 i) → Q (.inl (some (.int (zI (r : Int))))) (sA μ m l)) : ∀ (f j u : Nat), j + f = (psC (rs.getD r ruD).2).length → NBt u (fun i => P i ∧ ¬ ∃ q, q < j ∧ atW ((psC (rs.getD r ruD).2).getD q cnD).2 i) → Wp (d + 2) 13 (74, [some (.ref 65), some (.int (zI (r : Int))), some (.int (zI (u : Int))), some (.int (zI (j : Int)))], [], sA μ m l) Q := by
  obtain ⟨k1, k2, k3, k4, k5, k6⟩ := KV_rule hv hr
  have e13 := k1.2.1.1
  intro f
  induction f with
  | zero =>
    intro j u hf hu
    have ej : j = (psC (rs.getD r ruD).2).length := by omega
    obtain ⟨u1, u2⟩ := hu
    rw [ej] at u2
    refine K13_74 H hs hS ⟨by omega, by unfold iR; omega, by unfold iR; omega, fun _ => ⟨by unfold iR; omega, fun z => hq (fun ⟨i, w⟩ => ?_) _ _, fun z => hb ?_⟩, fun z => absurd (by omega) z⟩
    · have z' : u = 0 := by omega
      have y := (u2 i).mpr w
      rw [z', Nat.zero_testBit] at y
      exact absurd y (by decide)
    · obtain ⟨i, hi⟩ := Nat.exists_testBit_of_ne_zero (show u ≠ 0 by omega)
      refine ⟨i, ?_, (u2 i).mp hi⟩
      by_cases c : i < 8
      · exact c
      · have y : u.testBit i = false := Nat.testBit_lt_two_pow (Nat.lt_of_lt_of_le u1 (Nat.pow_le_pow_right (by decide) (by omega) : 2 ^ 8 ≤ 2 ^ i))
        rw [y] at hi
        exact absurd hi (by decide)
  | succ f ih =>
    intro j u hf hu
    obtain ⟨p1, p2, p3⟩ := KV_pos hv hr (show j < _ by omega)
    obtain ⟨q1, q2, q3, q4, q5, q6⟩ := KV_cond hv hr p1 p3
    obtain ⟨_, _, _, hvm, _⟩ := ac_nodes p3
    obtain ⟨u1, u2⟩ := hu
    have hlt := okA_lt q1.1
    refine K13_74 H hs hS ⟨by omega, by unfold iR; omega, by unfold iR; omega, fun z => absurd z (by omega), fun _ => ⟨by omega, fun v1 e1 => ⟨by omega, fun v2 e2 => ?_⟩⟩⟩
    obtain ⟨c, c1, c2, c3⟩ := zAndNot u1 hlt
    rw [e1, hvm, c2] at e2
    rw [e2, show (j : Int) + 1 = ((j + 1 : Nat) : Int) by omega]
    refine ih (j + 1) c (by omega) ⟨c1, fun i => ?_⟩
    rw [c3 i, Bool.and_eq_true, u2 i]
    have hw := atW_fl ((psC (rs.getD r ruD).2).getD j cnD).2 i
    constructor
    · rintro ⟨⟨z1, z2⟩, z3⟩
      refine ⟨z1, ?_⟩
      rintro ⟨q, hq', w⟩
      by_cases eq : q = j
      · rw [eq] at w
        rw [hw.mp w] at z3
        exact absurd z3 (by decide)
      · exact z2 ⟨q, by omega, w⟩
    · rintro ⟨z1, z2⟩
      refine ⟨⟨z1, fun ⟨q, hq', w⟩ => z2 ⟨q, by omega, w⟩⟩, ?_⟩
      cases y : (vmC ((psC (rs.getD r ruD).2).getD j cnD).2.2.flatten).testBit i with
      | false => rfl
      | true => exact absurd ⟨j, by omega, hw.mpr y⟩ z2
theorem fu_33 {m : PM} {r : Nat} {Q : Option Value ⊕ Nat → am_Mem → Prop} (H : CS μ) (hs : s = 22 ∨ s = 42) (hS : am_F μ 65 1 = s) (hv : KV X s m rs) (hr : r < rs.length) (hq : ∀ u : Nat, NBt u (fun i => atW (rs.getD r ruD).1 i ∨ ∃ q, q < (otC (rs.getD r ruD).2).length ∧ atW ((otC (rs.getD r ruD).2).getD q cnD).2 i) → Wp (d + 2) 13 (74, [some (.ref 65), some (.int (zI (r : Int))), some (.int (zI (u : Int))), some (.int (zI 0))], [], sA μ m l) Q) : ∀ (f j u : Nat), j + f = (otC (rs.getD r ruD).2).length → NBt u (fun i => atW (rs.getD r ruD).1 i ∨ ∃ q, q < j ∧ atW ((otC (rs.getD r ruD).2).getD q cnD).2 i) → Wp (d + 2) 13 (33, [some (.ref 65), some (.int (zI (r : Int))), some (.int (zI (u : Int))), some (.int (zI (j : Int)))], [], sA μ m l) Q := by
  obtain ⟨k1, k2, k3, k4, k5, k6⟩ := KV_rule hv hr
  have e16 := k1.2.2.1.1
  intro f
  induction f with
  | zero =>
    intro j u hf hu
    have ej : j = (otC (rs.getD r ruD).2).length := by omega
    rw [ej] at hu
    exact K13_33 H hs hS ⟨by omega, by unfold iR; omega, by unfold iR; omega, fun _ => hq u hu, fun z => absurd (by omega) z⟩
  | succ f ih =>
    intro j u hf hu
    obtain ⟨p1, p2, p3⟩ := KV_oth hv hr (show j < _ by omega)
    obtain ⟨q1, q2, q3, q4, q5, q6⟩ := KV_cond hv hr p1 p3
    obtain ⟨_, _, _, hvm, _⟩ := ac_nodes p3
    obtain ⟨u1, u2⟩ := hu
    have hlt := okA_lt q1.1
    refine K13_33 H hs hS ⟨by omega, by unfold iR; omega, by unfold iR; omega, fun z => absurd z (by omega), fun _ => ⟨by omega, fun v1 e1 => ⟨by omega, fun v2 e2 => ?_⟩⟩⟩
    rw [e1, hvm, zOr_n u1 hlt] at e2
    rw [e2, show (j : Int) + 1 = ((j + 1 : Nat) : Int) by omega]
    refine ih (j + 1) _ (by omega) ⟨Nat.or_lt_two_pow (n := 8) u1 hlt, fun i => ?_⟩
    rw [Nat.testBit_or, Bool.or_eq_true, u2 i, ← atW_fl]
    constructor
    · rintro ((z | ⟨q, hq', w⟩) | z)
      · exact Or.inl z
      · exact Or.inr ⟨q, by omega, w⟩
      · exact Or.inr ⟨j, by omega, z⟩
    · rintro (z | ⟨q, hq', w⟩)
      · exact Or.inl (Or.inl z)
      · by_cases eq : q = j
        · rw [eq] at w; exact Or.inr w
        · exact Or.inl (Or.inr ⟨q, by omega, w⟩)
theorem bad5_iff {r : Nat} (ok : OkR (rs.getD r ruD)) : Bad5 rs r ↔ ∃ i, i < 8 ∧ (atW (rs.getD r ruD).1 i ∨ ∃ q, q < (otC (rs.getD r ruD).2).length ∧ atW ((otC (rs.getD r ruD).2).getD q cnD).2 i) ∧ ¬ ∃ q, q < (psC (rs.getD r ruD).2).length ∧ atW ((psC (rs.getD r ruD).2).getD q cnD).2 i := by
  unfold Bad5
  constructor
  · rintro ⟨v, hv, h1, h2⟩
    refine ⟨v, hv, ?_, fun z => h2 ?_⟩
    · rcases h1 with z | ⟨c, hc, c1, z⟩
      · exact Or.inl z
      · exact Or.inr ((ex_ot (P := fun c => atW c.2 v)).mpr ⟨c, hc, by omega, z⟩)
    · exact (ex_ps (P := fun c => atW c.2 v)).mp z
  · rintro ⟨v, hv, h1, h2⟩
    refine ⟨v, hv, ?_, fun z => h2 ((ex_ps (P := fun c => atW c.2 v)).mpr z)⟩
    rcases h1 with z | z
    · exact Or.inl z
    · obtain ⟨c, hc, c1, z⟩ := (ex_ot (P := fun c => atW c.2 v)).mp z
      refine Or.inr ⟨c, hc, ?_, z⟩
      rcases (ok.2.2 c hc).2 with y | y | y
      · exact absurd y c1
      · omega
      · have := y.1; omega
theorem fu_2 {m : PM} {Q : Option Value ⊕ Nat → am_Mem → Prop} (H : CS μ) (hs : s = 22 ∨ s = 42) (hS : am_F μ 65 1 = s) (hv : KV X s m rs) (hq : Q (.inl (some (.int (zI (plc (Bad5 rs) rs.length))))) (sA μ m l)) : ∀ (f r : Nat) (o2 o3 : Option Value), r + f = rs.length → (∀ j, j < r → ¬ Bad5 rs j) → Wp (d + 2) 13 (2, [some (.ref 65), some (.int (zI (r : Int))), o2, o3], [], sA μ m l) Q := by
  obtain ⟨n1, n2, n3, n4⟩ := KV_n hv
  intro f
  induction f with
  | zero =>
    intro r o2 o3 hf h
    refine K13_2 H hs hS ⟨by unfold iR; omega, by unfold iR; omega, fun _ => ?_, fun z => absurd (by omega) z⟩
    rw [plc_none (fun j hj => h j (by omega))] at hq
    exact hq
  | succ f ih =>
    intro r o2 o3 hf h
    have hr : r < rs.length := by omega
    obtain ⟨k1, k2, k3, k4, k5, k6⟩ := KV_rule hv hr
    obtain ⟨a1, a2, a3, a4, a5⟩ := KV_head hv hr
    obtain ⟨_, _, _, hvm, _⟩ := ac_nodes a1
    have hvm' : m (s + 10) (m (s + 11) (r : Int)) = (vmC (rs.getD r ruD).1.2.flatten : Int) := hvm
    have b5 := bad5_iff k2
    refine K13_2 H hs hS ⟨by unfold iR; omega, by unfold iR; omega, fun z => absurd z (by omega), fun _ => ⟨by omega, by omega, fun v1 e1 => ?_⟩⟩
    rw [hvm'] at e1
    rw [e1]
    refine fu_33 H hs hS hv hr (fun u hu => ?_) (otC (rs.getD r ruD).2).length 0 _ (Nat.zero_add _) ⟨okA_lt a2, fun i => ?_⟩
    · refine fu_74 H hs hS hv hr (fun hn o2 o3 => ?_) (fun hb => ?_) (psC (rs.getD r ruD).2).length 0 u (Nat.zero_add _) ⟨hu.1, fun i => (hu.2 i).trans ⟨fun z => ⟨z, fun ⟨q, hq', _⟩ => absurd hq' (Nat.not_lt_zero q)⟩, fun z => z.1⟩⟩
      · refine ih (r + 1) _ _ (by omega) (fun j hj => ?_)
        by_cases c : j = r
        · rw [c]
          intro w
          obtain ⟨i, _, w2⟩ := b5.mp w
          exact hn ⟨i, w2⟩
        · exact h j (by omega)
      · rw [plc_at hr h (b5.mpr hb)] at hq
        exact hq
    · rw [← atW_fl]
      exact ⟨fun z => Or.inl z, fun z => by
        rcases z with z | ⟨q, hq', _⟩
        · exact z
        · exact absurd hq' (Nat.not_lt_zero q)⟩
/-- findUnsafe -/
theorem k_findUnsafe {m : PM} (H : CS μ) (hs : s = 22 ∨ s = 42) (hS : am_F μ 65 1 = s) (hv : KV X s m rs) : Wp (d + 2) 13 (0, [some (.ref 65), none, none, none], [], sA μ m l) (pI (fun y μ' => y = zI (plc (Bad5 rs) rs.length) ∧ μ' = sA μ m l) noX) := by
  refine K13_0 H hs hS ?_
  exact fu_2 H hs hS hv ⟨rfl, rfl⟩ rs.length 0 none none (Nat.zero_add _) (fun j hj => absurd hj (Nat.not_lt_zero j))
end CWW
