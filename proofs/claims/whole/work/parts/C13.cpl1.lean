/-! ===== the class's plan: its parts ===== -/
/-- relations that depend on one another, by the bits -/
def sm (l : PM) (b c : Nat) : Prop := b = c ∨ (bL (l 68 (b : Int)) c = true ∧ bL (l 68 (c : Int)) b = true)
/-- a rule that depends on its own head -/
def Rec (rs : List Rul) (r : Nat) : Prop := ∃ c, c ∈ (rs.getD r ruD).2 ∧ c.1 = 1 ∧ Trn rs (rs.getD r ruD) c.2.1
def uB (l : PM) (b : Nat) : Nat := tn (zL (zLOr (l 68 (b : Int)) (zLShl 1 (b : Int))))
/-- the turn in which a relation's group is placed -/
def kyB (l : PM) (b : Nat) : Int := if bL (l 68 (b : Int)) 60 = true ∨ bL (l 68 (b : Int)) 61 = true then (62 + (cB (uB l b) 64 : Int)) - 1 else (cB (uB l b) 64 : Int) - 1
theorem uB_bit (l : PM) {b i : Nat} (hb : b < 62) (hi : i < 64) : (uB l b).testBit i = true ↔ (bL (l 68 (b : Int)) i = true ∨ b = i) := by
  have e : (uB l b).testBit i = bL (zLOr (l 68 (b : Int)) (zLShl 1 (b : Int))) i := rfl
  rw [e, bL_or, Bool.or_eq_true, bL_shl hb hi, decide_eq_true_iff]
theorem m60 : ∀ i : Fin 64, (zL 3458764513820540928).toBitVec.getLsbD i.val = decide (i.val = 60 ∨ i.val = 61) := by decide +kernel
theorem and60 (x : Int) : zLAnd x 3458764513820540928 = 0 ↔ ¬ (bL x 60 = true ∨ bL x 61 = true) := by
  have key : zLAnd x 3458764513820540928 = 0 ↔ (zL x).toBitVec &&& (zL 3458764513820540928).toBitVec = 0#64 := by
    unfold zLAnd
    constructor
    · intro z
      have z2 : zL x &&& zL 3458764513820540928 = zL 0 := by rw [← zL_rev (zL x &&& zL 3458764513820540928), z]
      exact congrArg Int64.toBitVec z2
    · intro z
      have z2 : zL x &&& zL 3458764513820540928 = zL 0 := Int64.toBitVec.inj z
      rw [z2]
      decide
  rw [key]
  constructor
  · rintro z (y | y)
    · have w : ((zL x).toBitVec &&& (zL 3458764513820540928).toBitVec).getLsbD 60 = (0#64).getLsbD 60 := by rw [z]
      rw [BitVec.getLsbD_and, BitVec.getLsbD_zero, m60 ⟨60, by decide⟩] at w
      have y' : (zL x).toBitVec.getLsbD 60 = true := y
      rw [y'] at w
      exact absurd w (by decide)
    · have w : ((zL x).toBitVec &&& (zL 3458764513820540928).toBitVec).getLsbD 61 = (0#64).getLsbD 61 := by rw [z]
      rw [BitVec.getLsbD_and, BitVec.getLsbD_zero, m60 ⟨61, by decide⟩] at w
      have y' : (zL x).toBitVec.getLsbD 61 = true := y
      rw [y'] at w
      exact absurd w (by decide)
  · intro z
    refine BitVec.eq_of_getLsbD_eq fun j hj => ?_
    rw [BitVec.getLsbD_and, BitVec.getLsbD_zero, m60 ⟨j, hj⟩]
    simp only
    by_cases c : j = 60 ∨ j = 61
    · have nb : (zL x).toBitVec.getLsbD j = false := by
        cases q : (zL x).toBitVec.getLsbD j with
        | false => rfl
        | true =>
          refine absurd ?_ z
          rcases c with c | c
          · rw [c] at q; exact Or.inl q
          · rw [c] at q; exact Or.inr q
      rw [nb, Bool.false_and]
    · rw [decide_eq_false c, Bool.and_false]
section CP13
variable {d : Nat} {μ : am_Mem} {s : Nat} {X : Int → List Int → Prop} {rs : List Rul} {m l : PM} {h : Nat}
theorem bL_tr (hv : KV X s m rs) (hR : RLt X rs m l h) {a b c : Nat} (ha : a < h) (hb : b < h) (hc : c < 64) (z1 : bL (l 68 (a : Int)) b = true) (z2 : bL (l 68 (b : Int)) c = true) : bL (l 68 (a : Int)) c = true := by
  have h60 := hR.1.2.1
  obtain ⟨w, u, a1, a2, a3⟩ := (hR.2.1 a b ha (by omega)).mp z1
  obtain ⟨u', v, b1, b2, b3⟩ := (hR.2.1 b c hb hc).mp z2
  rw [← BN_uq hv hR.1 a2 b1] at b3
  exact (hR.2.1 a c ha hc).mpr ⟨w, v, a1, b2, Relation.TransGen.trans a3 b3⟩
theorem bL_62 (hv : KV X s m rs) (hR : RLt X rs m l h) {b i : Nat} (hb : b < h) (hi : 62 ≤ i ∧ i < 64) : ¬ bL (l 68 (b : Int)) i = true := by
  intro z
  obtain ⟨w, u, a1, ⟨x, hx, ex⟩, a3⟩ := (hR.2.1 b i hb hi.2).mp z
  have := hR.1.2.2.1 x (hv.2.1.1 _ _ hx).1 (hv.2.2.1.1 _ _ hx)
  omega
theorem sm_sy {b c : Nat} (z : sm l b c) : sm l c b := by
  rcases z with z | z
  · exact Or.inl z.symm
  · exact Or.inr ⟨z.2, z.1⟩
theorem sm_tr (hv : KV X s m rs) (hR : RLt X rs m l h) {a b c : Nat} (ha : a < h) (hb : b < h) (hc : c < h) (z1 : sm l a b) (z2 : sm l b c) : sm l a c := by
  have h60 := hR.1.2.1
  rcases z1 with z1 | z1
  · rw [z1]; exact z2
  · rcases z2 with z2 | z2
    · rw [← z2]; exact Or.inr z1
    · exact Or.inr ⟨bL_tr hv hR ha hb (by omega) z1.1 z2.1, bL_tr hv hR hc hb (by omega) z2.2 z1.2⟩
theorem ky_eq (hv : KV X s m rs) (hR : RLt X rs m l h) {b c : Nat} (hb : b < h) (hc : c < h) (z : sm l b c) : kyB l b = kyB l c := by
  have h60 := hR.1.2.1
  rcases z with z | ⟨z1, z2⟩
  · rw [z]
  · have hbit : ∀ i, i < 64 → (bL (l 68 (b : Int)) i = true ↔ bL (l 68 (c : Int)) i = true) := fun i hi => ⟨fun y => bL_tr hv hR hc hb hi z2 y, fun y => bL_tr hv hR hb hc hi z1 y⟩
    have hcb : cB (uB l b) 64 = cB (uB l c) 64 := cB_cg 64 fun i hi => by
      have e1 := uB_bit l (b := b) (i := i) (by omega) hi
      have e2 := uB_bit l (b := c) (i := i) (by omega) hi
      have e3 : (bL (l 68 (b : Int)) i = true ∨ b = i) ↔ (bL (l 68 (c : Int)) i = true ∨ c = i) := by
        constructor
        · rintro (y | y)
          · exact Or.inl ((hbit i hi).mp y)
          · rw [← y]; exact Or.inl z2
        · rintro (y | y)
          · exact Or.inl ((hbit i hi).mpr y)
          · rw [← y]; exact Or.inl z1
      have e4 := e1.trans (e3.trans e2.symm)
      cases q : (uB l b).testBit i with
      | true => rw [e4.mp q]
      | false =>
        cases q2 : (uB l c).testBit i with
        | false => rfl
        | true => rw [e4.mpr q2] at q; exact absurd q (by decide)
    unfold kyB
    rw [hcb]
    by_cases c6 : bL (l 68 (b : Int)) 60 = true ∨ bL (l 68 (b : Int)) 61 = true
    · rw [if_pos c6, if_pos (by
        rcases c6 with y | y
        · exact Or.inl ((hbit 60 (by decide)).mp y)
        · exact Or.inr ((hbit 61 (by decide)).mp y))]
    · rw [if_neg c6, if_neg (fun w => c6 (by
        rcases w with y | y
        · exact Or.inl ((hbit 60 (by decide)).mpr y)
        · exact Or.inr ((hbit 61 (by decide)).mpr y)))]
theorem ky_rng (hv : KV X s m rs) (hR : RLt X rs m l h) {b : Nat} (hb : b < h) : (0 ≤ kyB l b ∧ kyB l b < 124) ∧ (kyB l b < 62 ↔ ¬ (bL (l 68 (b : Int)) 60 = true ∨ bL (l 68 (b : Int)) 61 = true)) := by
  have h60 := hR.1.2.1
  have lo : 0 < cB (uB l b) 64 := by
    have z := cB_lt (x := 0) (y := uB l b) (j := b) 64 (fun i _ y => by rw [Nat.zero_testBit] at y; exact absurd y (by decide)) (by omega) (by rw [Nat.zero_testBit]; decide) ((uB_bit l (by omega) (by omega)).mpr (Or.inr rfl))
    omega
  have hi : cB (uB l b) 64 ≤ 62 := by
    have e : cB (uB l b) 64 = cB (uB l b) 62 + (if (uB l b).testBit 62 = true then 1 else 0) + (if (uB l b).testBit 63 = true then 1 else 0) := rfl
    have n2 : ¬ (uB l b).testBit 62 = true := fun z => by
      rcases (uB_bit l (by omega) (by omega)).mp z with y | y
      · exact bL_62 hv hR hb (by omega) y
      · omega
    have n3 : ¬ (uB l b).testBit 63 = true := fun z => by
      rcases (uB_bit l (by omega) (by omega)).mp z with y | y
      · exact bL_62 hv hR hb (by omega) y
      · omega
    rw [e, if_neg n2, if_neg n3]
    have := cB_le (uB l b) 62
    omega
  unfold kyB
  by_cases c : bL (l 68 (b : Int)) 60 = true ∨ bL (l 68 (b : Int)) 61 = true
  · rw [if_pos c]
    exact ⟨by omega, fun z => by omega, fun z => absurd c z⟩
  · rw [if_neg c]
    exact ⟨by omega, fun _ => c, fun _ => by omega⟩
/-- what a relation depends on is placed before -/
theorem ky_lt (hv : KV X s m rs) (hR : RLt X rs m l h) {b c : Nat} (hb : b < h) (hc : c < h) (z1 : bL (l 68 (b : Int)) c = true) (z2 : ¬ bL (l 68 (c : Int)) b = true) : kyB l c < kyB l b := by
  have h60 := hR.1.2.1
  have hbit : ∀ i, i < 64 → bL (l 68 (c : Int)) i = true → bL (l 68 (b : Int)) i = true := fun i hi y => bL_tr hv hR hb hc hi z1 y
  have hne : ¬ b = c := fun e => by rw [e] at z1 z2; exact z2 z1
  have hcb : cB (uB l c) 64 < cB (uB l b) 64 := by
    refine cB_lt (j := b) 64 (fun i hi y => ?_) (by omega) (fun y => ?_) ((uB_bit l (by omega) (by omega)).mpr (Or.inr rfl))
    · rcases (uB_bit l (by omega) hi).mp y with w | w
      · exact (uB_bit l (by omega) hi).mpr (Or.inl (hbit i hi w))
      · rw [← w]
        exact (uB_bit l (by omega) (by omega)).mpr (Or.inl z1)
    · rcases (uB_bit l (by omega) (by omega)).mp y with w | w
      · exact z2 w
      · exact hne w.symm
  have rb := ky_rng hv hR hb
  have rc := ky_rng hv hR hc
  unfold kyB at rb rc ⊢
  by_cases c6 : bL (l 68 (c : Int)) 60 = true ∨ bL (l 68 (c : Int)) 61 = true
  · rw [if_pos c6, if_pos (show bL (l 68 (b : Int)) 60 = true ∨ bL (l 68 (b : Int)) 61 = true by
      rcases c6 with y | y
      · exact Or.inl (hbit 60 (by decide) y)
      · exact Or.inr (hbit 61 (by decide) y))]
    omega
  · rw [if_neg c6] at rc ⊢
    by_cases b6 : bL (l 68 (b : Int)) 60 = true ∨ bL (l 68 (b : Int)) 61 = true
    · rw [if_pos b6]
      have := rc.2.mpr c6
      omega
    · rw [if_neg b6]
      omega
theorem k_turnOf (H : CS μ) (hs : s = 22 ∨ s = 42) (hS : am_F μ 65 1 = s) {b : Nat} (hb : b < 62) : Wp (d + 2) 21 (0, [some (.ref 65), some (.int (zI (b : Int))), none, none], [], sA μ m l) (pI (fun y μ' => y = zI (kyB l b) ∧ μ' = sA μ m l) noX) := by
  refine K21_0 H hs hS ⟨by omega, lR_x _, fun v1 e1 => ⟨_, noX, k_bitCount _, fun y μ' hy => ?_, fun _ _ z => z.elim⟩⟩
  obtain ⟨rfl, rfl⟩ := hy
  refine K21_34 H hs hS ⟨?_, fun v2 e2 => ⟨?_, rfl⟩⟩
  · rw [e1]
    split <;> decide
  · rw [e2]
    unfold kyB
    have z := and60 (l 68 (b : Int))
    by_cases c : bL (l 68 (b : Int)) 60 = true ∨ bL (l 68 (b : Int)) 61 = true
    · rw [if_pos c, e1, if_pos (fun y => z.mp y c), if_pos (by decide)]
      rfl
    · rw [if_neg c, e1, if_neg (not_not_intro (z.mpr c)), if_neg (by decide)]
      rfl
theorem k_sameGroup (H : CS μ) (hs : s = 22 ∨ s = 42) (hS : am_F μ 65 1 = s) {b c : Nat} (hb : b < 62) (hc : c < 62) : Wp d 24 (0, [some (.ref 65), some (.int (zI (b : Int))), some (.int (zI (c : Int)))], [], sA μ m l) (pI (fun y μ' => y = zI (bP (sm l b c)) ∧ μ' = sA μ m l) noX) := by
  refine K24_0 H hs hS ⟨by unfold iR; omega, by unfold iR; omega, ⟨fun _ => trivial, fun _ => ⟨by omega, lR_x _, fun _ => trivial, fun _ => ⟨by omega, lR_x _, trivial⟩⟩⟩, fun v1 e1 => ⟨?_, rfl⟩⟩
  have i1 := bitL_iff (x := l 68 (b : Int)) hc
  have i2 := bitL_iff (x := l 68 (c : Int)) hb
  rw [e1]
  by_cases c0 : b = c
  · rw [if_pos (by omega), bP_1 (show sm l b c from Or.inl c0)]
  · rw [if_neg (by omega)]
    by_cases c1 : bL (l 68 (b : Int)) c = true
    · rw [if_neg (i1.mpr c1)]
      by_cases c2 : bL (l 68 (c : Int)) b = true
      · rw [if_neg (i2.mpr c2), bP_1 (show sm l b c from Or.inr ⟨c1, c2⟩)]
      · rw [if_pos (Decidable.byContradiction fun z => c2 (i2.mp z)), bP_0]
        rintro (z | z)
        · exact c0 z
        · exact c2 z.2
    · rw [if_pos (Decidable.byContradiction fun z => c1 (i1.mp z)), bP_0]
      rintro (z | z)
      · exact c0 z
      · exact c1 z.1
theorem rc_2 {r : Nat} (H : CS μ) (hs : s = 22 ∨ s = 42) (hS : am_F μ 65 1 = s) (hv : KV X s m rs) (hR : RLt X rs m l h) (hr : r < rs.length) : ∀ (f j : Nat), j + f = (psC (rs.getD r ruD).2).length → (¬ ∃ i, i < j ∧ Trn rs (rs.getD r ruD) ((psC (rs.getD r ruD).2).getD i cnD).2.1) → Wp (d + 2) 25 (2, [some (.ref 65), some (.int (zI (r : Int))), some (.int (zI (j : Int)))], [], sA μ m l) (pI (fun y μ' => y = zI (bP (Rec rs r)) ∧ μ' = sA μ m l) noX) := by
  obtain ⟨k1, k2, k3, k4, k5, k6⟩ := KV_rule hv hr
  obtain ⟨a1, a2, a3, a4, a5⟩ := KV_head hv hr
  have e13 := k1.2.1.1
  intro f
  induction f with
  | zero =>
    intro j hf hn
    have ej : j = (psC (rs.getD r ruD).2).length := by omega
    rw [ej] at hn
    refine K25_2 H hs hS ⟨by omega, by unfold iR; omega, by unfold iR; omega, fun _ => ⟨?_, rfl⟩, fun z => absurd (by omega) z⟩
    rw [bP_0]
    rintro ⟨c, hc, c1, z⟩
    exact hn ((ex_ps (P := fun c => Trn rs (rs.getD r ruD) c.2.1)).mpr ⟨c, hc, c1, z⟩)
  | succ f ih =>
    intro j hf hn
    obtain ⟨p1, p2, p3⟩ := KV_pos hv hr (show j < _ by omega)
    obtain ⟨q1, q2, q3, q4, q5, q6⟩ := KV_cond hv hr p1 p3
    have hx := (q5 (by omega)).1
    have ti := trn_iff hv hR hr hx
    refine K25_2 H hs hS ⟨by omega, by unfold iR; omega, by unfold iR; omega, fun z => absurd z (by omega), fun _ => ⟨by omega, by omega, fun v1 e1 => ⟨by omega, by omega, fun v2 e2 => ?_⟩⟩⟩
    rw [e1, e2]
    refine ⟨GDp_of hv hR hx a3, fun v3 e3 => ⟨fun z => ?_, fun z => ⟨?_, rfl⟩⟩⟩
    · rw [show (j : Int) + 1 = ((j + 1 : Nat) : Int) by omega]
      rw [e3] at z
      refine ih (j + 1) (by omega) ?_
      rintro ⟨i, hi, w⟩
      by_cases c : i = j
      · rw [c] at w; exact bP_z.mp z (ti.mpr w)
      · exact hn ⟨i, by omega, w⟩
    · have yt := ti.mp (Classical.byContradiction fun w => z (by rw [e3]; exact bP_z.mpr w))
      rw [bP_1 (show Rec rs r from ⟨_, p1, p2, yt⟩)]
theorem k_isRecursive {r : Nat} (H : CS μ) (hs : s = 22 ∨ s = 42) (hS : am_F μ 65 1 = s) (hv : KV X s m rs) (hR : RLt X rs m l h) (hr : r < rs.length) : Wp (d + 2) 25 (0, [some (.ref 65), some (.int (zI (r : Int))), none], [], sA μ m l) (pI (fun y μ' => y = zI (bP (Rec rs r)) ∧ μ' = sA μ m l) noX) := by
  refine K25_0 H hs hS ?_
  exact rc_2 H hs hS hv hR hr (psC (rs.getD r ruD).2).length 0 (Nat.zero_add _) (fun ⟨i, hi, _⟩ => absurd hi (Nat.not_lt_zero i))
/-- the variables that matter in any case -/
def Mt0 (rs : List Rul) (r i : Nat) : Prop := atW (rs.getD r ruD).1 i ∨ ∃ q, q < (otC (rs.getD r ruD).2).length ∧ atW ((otC (rs.getD r ruD).2).getD q cnD).2 i
/-- or in a positive condition from j on -/
def MtJ (rs : List Rul) (r j i : Nat) : Prop := Mt0 rs r i ∨ ∃ q, j ≤ q ∧ q < (psC (rs.getD r ruD).2).length ∧ atW ((psC (rs.getD r ruD).2).getD q cnD).2 i
/-- the variables that still matter behind each positive condition -/
def LT (s : Nat) (rs : List Rul) (m : PM) (r j0 : Nat) : Prop := ∀ j, j0 ≤ j → j < (psC (rs.getD r ruD).2).length → ∃ u : Nat, m (s + 14) (8 * (r : Int) + (j : Int)) = (u : Int) ∧ NBt u (MtJ rs r (j + 1))
theorem la_71 {r : Nat} {m0 : PM} {Q : Option Value ⊕ Nat → am_Mem → Prop} (H : CS μ) (hs : s = 22 ∨ s = 42) (hS : am_F μ 65 1 = s) (hr : r < rs.length) (hq : ∀ m, (∀ c i, ¬ (c = s + 14 ∧ 8 * (r : Int) ≤ i ∧ i < 8 * (r : Int) + 8) → m c i = m0 c i) → LT s rs m r 0 → Q (.inl none) (sA μ m l)) : ∀ (j : Nat) (m : PM) (u : Nat), j ≤ (psC (rs.getD r ruD).2).length → (∀ c i, ¬ (c = s + 14 ∧ 8 * (r : Int) ≤ i ∧ i < 8 * (r : Int) + 8) → m c i = m0 c i) → KV X s m rs → LT s rs m r j → NBt u (MtJ rs r j) → Wp (d + 2) 26 (71, [some (.ref 65), some (.int (zI (r : Int))), some (.int (zI (u : Int))), some (.int (zI ((j : Int) - 1)))], [], sA μ m l) Q := by
  intro j
  induction j with
  | zero =>
    intro m u hj fr hv hL hu
    exact K26_71 H hs hS ⟨by unfold iR; omega, fun _ => hq m fr hL, fun z => absurd (by omega) z⟩
  | succ j ih =>
    intro m u hj fr hv hL hu
    obtain ⟨k1, k2, k3, k4, k5, k6⟩ := KV_rule hv hr
    obtain ⟨p1, p2, p3⟩ := KV_pos hv hr (show j < _ by omega)
    obtain ⟨q1, q2, q3, q4, q5, q6⟩ := KV_cond hv hr p1 p3
    obtain ⟨_, _, _, hvm, _⟩ := ac_nodes p3
    have hlt := okA_lt q1.1
    have ej : ((j + 1 : Nat) : Int) - 1 = (j : Int) := by omega
    rw [ej]
    refine K26_71 H hs hS ⟨by unfold iR; omega, fun z => absurd z (by omega), fun _ => ⟨by omega, fun m1 e1 => ⟨by omega, fun v2 e2 => ?_⟩⟩⟩
    have k : ∀ c i, ¬ (c = s + 14 ∧ i = 8 * (r : Int) + (j : Int)) → m1 c i = m c i := fun c i q => by rw [e1]; exact up_o q
    rw [k _ _ (by omega)] at e2
    rw [e2]
    refine ⟨by omega, fun v3 e3 => ?_⟩
    rw [hvm, zOr_n hu.1 hlt] at e3
    rw [e3]
    refine ih m1 _ (by omega) (fun c i q => by rw [k c i (by omega)]; exact fr c i q) (KV_cg (fun c i q => k c i (by omega)) hv) (fun j' h1 h2 => ?_) ⟨Nat.or_lt_two_pow (n := 8) hu.1 hlt, fun i => ?_⟩
    · by_cases c : j' = j
      · rw [c]
        exact ⟨u, by rw [e1, up_s], hu⟩
      · obtain ⟨u', g1, g2⟩ := hL j' (by omega) h2
        exact ⟨u', by rw [k _ _ (by omega)]; exact g1, g2⟩
    · rw [Nat.testBit_or, Bool.or_eq_true, hu.2 i, ← atW_fl]
      constructor
      · rintro ((z | ⟨q, z1, z2, z3⟩) | z)
        · exact Or.inl z
        · exact Or.inr ⟨q, by omega, z2, z3⟩
        · exact Or.inr ⟨j, by omega, by omega, z⟩
      · rintro (z | ⟨q, z1, z2, z3⟩)
        · exact Or.inl (Or.inl z)
        · by_cases c : q = j
          · rw [c] at z3; exact Or.inr z3
          · exact Or.inl (Or.inr ⟨q, by omega, z2, z3⟩)
theorem la_20 {r : Nat} {Q : Option Value ⊕ Nat → am_Mem → Prop} (H : CS μ) (hs : s = 22 ∨ s = 42) (hS : am_F μ 65 1 = s) (hv : KV X s m rs) (hr : r < rs.length) (hq : ∀ u : Nat, NBt u (Mt0 rs r) → Wp (d + 2) 26 (71, [some (.ref 65), some (.int (zI (r : Int))), some (.int (zI (u : Int))), some (.int (zI (((psC (rs.getD r ruD).2).length : Int) - 1)))], [], sA μ m l) Q) : ∀ (f j u : Nat), j + f = (otC (rs.getD r ruD).2).length → NBt u (fun i => atW (rs.getD r ruD).1 i ∨ ∃ q, q < j ∧ atW ((otC (rs.getD r ruD).2).getD q cnD).2 i) → Wp (d + 2) 26 (20, [some (.ref 65), some (.int (zI (r : Int))), some (.int (zI (u : Int))), some (.int (zI (j : Int)))], [], sA μ m l) Q := by
  obtain ⟨k1, k2, k3, k4, k5, k6⟩ := KV_rule hv hr
  have e16 := k1.2.2.1.1
  have e13 := k1.2.1.1
  intro f
  induction f with
  | zero =>
    intro j u hf hu
    have ej : j = (otC (rs.getD r ruD).2).length := by omega
    rw [ej] at hu
    refine K26_20 H hs hS ⟨by omega, by unfold iR; omega, by unfold iR; omega, fun _ => ?_, fun z => absurd (by omega) z⟩
    rw [e13]
    exact hq u hu
  | succ f ih =>
    intro j u hf hu
    obtain ⟨p1, p2, p3⟩ := KV_oth hv hr (show j < _ by omega)
    obtain ⟨q1, q2, q3, q4, q5, q6⟩ := KV_cond hv hr p1 p3
    obtain ⟨_, _, _, hvm, _⟩ := ac_nodes p3
    obtain ⟨u1, u2⟩ := hu
    have hlt := okA_lt q1.1
    refine K26_20 H hs hS ⟨by omega, by unfold iR; omega, by unfold iR; omega, fun z => absurd z (by omega), fun _ => ⟨by omega, fun v1 e1 => ⟨by omega, fun v2 e2 => ?_⟩⟩⟩
    rw [e1, hvm, zOr_n u1 hlt] at e2
    rw [e2, show (j : Int) + 1 = ((j + 1 : Nat) : Int) by omega]
    refine ih (j + 1) _ (by omega) ⟨Nat.or_lt_two_pow (n := 8) u1 hlt, fun i => ?_⟩
    rw [Nat.testBit_or, Bool.or_eq_true, u2 i, ← atW_fl]
    constructor
    · rintro ((z | ⟨q, hq', w⟩) | z)
      · exact Or.inl z
      · exact Or.inr ⟨q, by omega, w⟩
      · exact Or.inr ⟨j, by omega, z⟩
    · rintro (z | ⟨q, hq', w⟩)
      · exact Or.inl (Or.inl z)
      · by_cases eq : q = j
        · rw [eq] at w; exact Or.inr w
        · exact Or.inl (Or.inr ⟨q, by omega, w⟩)
theorem k_findLater {r : Nat} (H : CS μ) (hs : s = 22 ∨ s = 42) (hS : am_F μ 65 1 = s) (hv : KV X s m rs) (hr : r < rs.length) : Wp (d + 2) 26 (0, [some (.ref 65), some (.int (zI (r : Int))), none, none], [], sA μ m l) (pV (fun μ' => ∃ m', μ' = sA μ m' l ∧ (∀ c i, ¬ (c = s + 14 ∧ 8 * (r : Int) ≤ i ∧ i < 8 * (r : Int) + 8) → m' c i = m c i) ∧ LT s rs m' r 0) noX) := by
  obtain ⟨k1, k2, k3, k4, k5, k6⟩ := KV_rule hv hr
  obtain ⟨a1, a2, a3, a4, a5⟩ := KV_head hv hr
  obtain ⟨_, _, _, hvm, _⟩ := ac_nodes a1
  have hvm' : m (s + 10) (m (s + 11) (r : Int)) = (vmC (rs.getD r ruD).1.2.flatten : Int) := hvm
  refine K26_0 H hs hS ⟨by omega, by omega, fun v1 e1 => ?_⟩
  rw [hvm'] at e1
  rw [e1]
  refine la_20 H hs hS hv hr (fun u hu => ?_) (otC (rs.getD r ruD).2).length 0 _ (Nat.zero_add _) ⟨okA_lt a2, fun i => ?_⟩
  · refine la_71 (m0 := m) (X := X) H hs hS hr (fun m' fr hL => ⟨m', rfl, fr, hL⟩) (psC (rs.getD r ruD).2).length m u (Nat.le_refl _) (fun _ _ _ => rfl) hv (fun j h1 h2 => absurd h2 (by omega)) ⟨hu.1, fun i => (hu.2 i).trans ⟨fun z => Or.inl z, fun z => ?_⟩⟩
    rcases z with z | ⟨q, z1, z2, _⟩
    · exact z
    · omega
  · rw [← atW_fl]
    exact ⟨fun z => Or.inl z, fun z => by
      rcases z with z | ⟨q, hq', _⟩
      · exact z
      · exact absurd hq' (Nat.not_lt_zero q)⟩
end CP13
