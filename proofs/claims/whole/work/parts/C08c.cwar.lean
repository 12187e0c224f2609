/-! ===== the class's relate: what depends on what ===== -/
/-- the needs are closed over what depends on what -/
def NdD (X : Int → List Int → Prop) (rs : List Rul) (m l : PM) (h : Nat) : Prop := (∀ b i : Nat, b < h → i < 64 → (bL (l 68 (b : Int)) i = true ↔ ∃ w w', BN X m b w ∧ BN X m i w' ∧ Dep rs w w')) ∧ ∀ b i : Nat, h ≤ b → b < 62 → i < 64 → ¬ bL (l 68 (b : Int)) i = true
section CWR
variable {d : Nat} {μ : am_Mem} {s : Nat} {X : Int → List Int → Prop} {rs : List Rul}
theorem wr_216 {m : PM} {h k : Nat} {R : Nat → Nat → Prop} {Q : Option Value ⊕ Nat → am_Mem → Prop} (H : CS μ) (hs : s = 22 ∨ s = 42) (hS : am_F μ 65 1 = s) (e4 : m 65 4 = (h : Int)) (h60 : h ≤ 60) (hk : k < h) {l0 : PM} (hq : ∀ l : PM, (∀ c j, ¬ c = 68 → l c j = l0 c j) → (∀ b i : Nat, b < 62 → i < 64 → (bL (l 68 (b : Int)) i = true ↔ (R b i ∨ (b < h ∧ R b k ∧ R k i)))) → ∀ o2 o3 : Option Value, Wp (d + 3) 9 (206, [some (.ref 65), some (.int (zI ((k : Int) + 1))), o2, o3], [], sA μ m l) Q) : ∀ (f b0 : Nat) (l : PM) (o3 : Option Value), b0 + f = h → (∀ c j, ¬ c = 68 → l c j = l0 c j) → (∀ b i : Nat, b < 62 → i < 64 → (bL (l 68 (b : Int)) i = true ↔ (R b i ∨ (b < b0 ∧ R b k ∧ R k i)))) → Wp (d + 3) 9 (216, [some (.ref 65), some (.int (zI (k : Int))), some (.int (zI (b0 : Int))), o3], [], sA μ m l) Q := by
  intro f
  induction f with
  | zero =>
    intro b0 l o3 hf fr hl
    have eb : b0 = h := by omega
    rw [eb] at hl
    exact K9_216 H hs hS ⟨by unfold iR; omega, by unfold iR; omega, fun _ => hq l fr hl _ _, fun z => absurd (by omega) z⟩
  | succ f ih =>
    intro b0 l o3 hf fr hl
    have hbit := bitL_iff (x := l 68 (b0 : Int)) (i := k) (by omega)
    have hb0 : bL (l 68 (b0 : Int)) k = true ↔ R b0 k := (hl b0 k (by omega) (by omega)).trans ⟨fun z => by
      rcases z with z | z
      · exact z
      · omega, fun z => Or.inl z⟩
    have hk2 : ∀ i, i < 64 → (bL (l 68 (k : Int)) i = true ↔ R k i) := fun i hi => (hl k i (by omega) hi).trans ⟨fun z => by
      rcases z with z | z
      · exact z
      · exact z.2.2, fun z => Or.inl z⟩
    have e : (b0 : Int) + 1 = ((b0 + 1 : Nat) : Int) := by omega
    refine K9_216 H hs hS ⟨by unfold iR; omega, by unfold iR; omega, fun z => absurd z (by omega), fun _ => ⟨by omega, lR_x _, fun z => ?_, fun z => ⟨by omega, fun l1 el => ?_⟩⟩⟩
    · have nb : ¬ R b0 k := fun w => hbit.mpr (hb0.mpr w) z
      rw [e]
      refine ih (b0 + 1) l _ (by omega) fr (fun b i hb hi => (hl b i hb hi).trans (or_congr Iff.rfl ⟨fun w => ⟨by omega, w.2⟩, fun w => ⟨?_, w.2⟩⟩))
      by_cases c : b = b0
      · rw [c] at w; exact absurd w.2.1 nb
      · omega
    · have yb : R b0 k := hb0.mp (hbit.mp z)
      rw [e]
      refine ih (b0 + 1) l1 _ (by omega) (fun c j q => by rw [el, up_c q]; exact fr c j q) (fun b i hb hi => ?_)
      by_cases c : b = b0
      · rw [c, el, up_s, bL_or, Bool.or_eq_true, hl b0 i (by omega) hi, hk2 i hi]
        constructor
        · rintro ((w | w) | w)
          · exact Or.inl w
          · omega
          · exact Or.inr ⟨by omega, yb, w⟩
        · rintro (w | w)
          · exact Or.inl (Or.inl w)
          · exact Or.inr w.2.2
      · rw [el, up_i (by omega), hl b i hb hi]
        exact or_congr Iff.rfl ⟨fun w => ⟨by omega, w.2⟩, fun w => ⟨by omega, w.2⟩⟩
/-- what is known of the needs behind the first k of the relations -/
def WI (X : Int → List Int → Prop) (rs : List Rul) (m : PM) (h k : Nat) (R : Nat → Nat → Prop) : Prop := (∀ b i : Nat, b < 62 → i < 64 → R b i → b < h ∧ ∃ w w', BN X m b w ∧ BN X m i w' ∧ Dep rs w w') ∧ (∀ (b i : Nat) (w w' : List Int), b < 62 → i < 64 → BN X m b w → BN X m i w' → Edg rs w w' → R b i) ∧ ∀ j, j < k → ∀ b i : Nat, b < 62 → i < 64 → R b j → R j i → R b i
theorem WI_step {m : PM} {h k : Nat} {R R' : Nat → Nat → Prop} (hv : KV X s m rs) (hB : BT X rs m h) (hk : k < h) (hW : WI X rs m h k R) (hR : ∀ b i : Nat, b < 62 → i < 64 → (R' b i ↔ (R b i ∨ (b < h ∧ R b k ∧ R k i)))) : WI X rs m h (k + 1) R' := by
  obtain ⟨w1, w2, w3⟩ := hW
  have h60 := hB.2.1
  refine ⟨fun b i hb hi z => ?_, fun b i w w' hb hi z1 z2 z3 => ?_, fun j hj b i hb hi z1 z2 => ?_⟩
  · rcases (hR b i hb hi).mp z with z | ⟨z1, z2, z3⟩
    · exact w1 b i hb hi z
    · obtain ⟨q1, w, u, a1, a2, a3⟩ := w1 b k hb (by omega) z2
      obtain ⟨q2, u', w', c1, c2, c3⟩ := w1 k i (by omega) hi z3
      have eu : u = u' := by
        obtain ⟨x, hx, ex⟩ := a2
        obtain ⟨y, hy, ey⟩ := c1
        have hx0 := hv.2.1.1 _ _ hx
        have hy0 := hv.2.1.1 _ _ hy
        have exy := hB.2.2.2.2.2.1 x y hx0.1 (hv.2.2.1.1 _ _ hx) hy0.1 (hv.2.2.1.1 _ _ hy) (by rw [ex, ey]) (by omega)
        rw [exy] at hx
        exact hv.2.1.2.1 _ _ _ hx hy
      rw [← eu] at c3
      exact ⟨q1, w, w', a1, c2, Relation.TransGen.trans a3 c3⟩
  · exact (hR b i hb hi).mpr (Or.inl (w2 b i w w' hb hi z1 z2 z3))
  · have hj2 : j < 62 := by omega
    by_cases c : j = k
    · rw [c] at z1 z2
      have y1 : R b k := by
        rcases (hR b k hb (by omega)).mp z1 with y | y
        · exact y
        · exact y.2.1
      have y2 : R k i := by
        rcases (hR k i (by omega) hi).mp z2 with y | y
        · exact y
        · exact y.2.2
      exact (hR b i hb hi).mpr (Or.inr ⟨(w1 b k hb (by omega) y1).1, y1, y2⟩)
    · have hjk : j < k := by omega
      rcases (hR b j hb (by omega)).mp z1 with y1 | ⟨y0, y1, y2⟩
      · rcases (hR j i hj2 hi).mp z2 with u1 | ⟨u0, u1, u2⟩
        · exact (hR b i hb hi).mpr (Or.inl (w3 j hjk b i hb hi y1 u1))
        · exact (hR b i hb hi).mpr (Or.inr ⟨(w1 b j hb (by omega) y1).1, w3 j hjk b k hb (by omega) y1 u1, u2⟩)
      · rcases (hR j i hj2 hi).mp z2 with u1 | ⟨u0, u1, u2⟩
        · exact (hR b i hb hi).mpr (Or.inr ⟨y0, y1, w3 j hjk k i (by omega) hi y2 u1⟩)
        · exact (hR b i hb hi).mpr (Or.inr ⟨y0, y1, u2⟩)
theorem BN_uq {m : PM} {h b : Nat} {u u' : List Int} (hv : KV X s m rs) (hB : BT X rs m h) (a2 : BN X m b u) (c1 : BN X m b u') : u = u' := by
  obtain ⟨x, hx, ex⟩ := a2
  obtain ⟨y, hy, ey⟩ := c1
  have hx0 := hv.2.1.1 _ _ hx
  have hy0 := hv.2.1.1 _ _ hy
  have exy := hB.2.2.2.2.2.1 x y hx0.1 (hv.2.2.1.1 _ _ hx) hy0.1 (hv.2.2.1.1 _ _ hy) (by rw [ex, ey]) (by omega)
  rw [exy] at hx
  exact hv.2.1.2.1 _ _ _ hx hy
theorem wr_206 {m : PM} {h : Nat} {Q : Option Value ⊕ Nat → am_Mem → Prop} (H : CS μ) (hs : s = 22 ∨ s = 42) (hS : am_F μ 65 1 = s) (hv : KV X s m rs) (hB : BT X rs m h) {l0 : PM} (hq : ∀ l : PM, (∀ c j, ¬ c = 68 → l c j = l0 c j) → WI X rs m h h (fun b i => bL (l 68 (b : Int)) i = true) → Q (.inl none) (sA μ m l)) : ∀ (f k : Nat) (l : PM) (o2 o3 : Option Value), k + f = h → (∀ c j, ¬ c = 68 → l c j = l0 c j) → WI X rs m h k (fun b i => bL (l 68 (b : Int)) i = true) → Wp (d + 3) 9 (206, [some (.ref 65), some (.int (zI (k : Int))), o2, o3], [], sA μ m l) Q := by
  have e4 := hB.1
  have h60 := hB.2.1
  intro f
  induction f with
  | zero =>
    intro k l o2 o3 hf fr hW
    have ek : k = h := by omega
    rw [ek] at hW
    exact K9_206 H hs hS ⟨by unfold iR; omega, by unfold iR; omega, fun _ => hq l fr hW, fun z => absurd (by omega) z⟩
  | succ f ih =>
    intro k l o2 o3 hf fr hW
    refine K9_206 H hs hS ⟨by unfold iR; omega, by unfold iR; omega, fun z => absurd z (by omega), fun _ => ?_⟩
    refine wr_216 (l0 := l0) (R := fun b i => bL (l 68 (b : Int)) i = true) H hs hS e4 h60 (by omega) (fun l1 fr1 hl1 o2 o3 => ?_) h 0 l _ (Nat.zero_add _) fr (fun b i _ _ => ⟨fun z => Or.inl z, fun z => ?_⟩)
    · rw [show (k : Int) + 1 = ((k + 1 : Nat) : Int) by omega]
      exact ih (k + 1) l1 _ _ (by omega) fr1 (WI_step hv hB (by omega) hW hl1)
    · rcases z with z | z
      · exact z
      · exact absurd z.1 (Nat.not_lt_zero b)
/-- what relate leaves -/
def RLt (X : Int → List Int → Prop) (rs : List Rul) (m l : PM) (h : Nat) : Prop := BT X rs m h ∧ NdD X rs m l h
theorem Dep_hd {x y : List Int} (h : Dep rs x y) : isHd rs x := by
  have key : ∀ {a b : List Int}, Edg rs a b → isHd rs a := by
    rintro a b ⟨ru, hru, e, _⟩
    obtain ⟨q, hq, eq⟩ := (mem_gD rs ruD ru).mp hru
    exact ⟨q, hq, by rw [eq]; exact e⟩
  induction h with
  | single e => exact key e
  | tail _ _ ih => exact ih
theorem WI_end {m l : PM} {h : Nat} (hv : KV X s m rs) (hB : BT X rs m h) (hW : WI X rs m h h (fun b i => bL (l 68 (b : Int)) i = true)) : NdD X rs m l h := by
  obtain ⟨w1, w2, w3⟩ := hW
  have h60 := hB.2.1
  have hdb : ∀ w, isHd rs w → ∃ k : Nat, k < h ∧ BN X m k w := by
    intro w hw
    obtain ⟨q, hq, e⟩ := hw
    obtain ⟨a1, a2, a3, a4, a5⟩ := KV_head hv hq
    rw [e] at a3
    have z := hB.2.2.2.1 _ _ a3 ⟨q, hq, e⟩
    exact ⟨(m 67 (m (s + 6) (m (s + 11) (q : Int)))).toNat, by omega, _, a3, by omega⟩
  refine ⟨fun b i hb hi => ⟨fun z => (w1 b i (by omega) hi z).2, ?_⟩, fun b i hb hb2 hi z => by have := (w1 b i hb2 hi z).1; omega⟩
  rintro ⟨w, w', b1, b2, hd⟩
  have key : ∀ y, Dep rs w y → ∀ i, i < 64 → BN X m i y → bL (l 68 (b : Int)) i = true := by
    intro y hy
    induction hy with
    | single e => intro i hi hbi; exact w2 b i w _ (by omega) hi b1 hbi e
    | @tail u v hu e ih =>
      intro i hi hbi
      have hu2 : isHd rs u := by
        obtain ⟨ru, hru, e1, _⟩ := e
        obtain ⟨q, hq, eq⟩ := (mem_gD rs ruD ru).mp hru
        exact ⟨q, hq, by rw [eq]; exact e1⟩
      obtain ⟨k, hk, hbk⟩ := hdb u hu2
      exact w3 k hk b i (by omega) hi (ih k (by omega) hbk) (w2 k i u v (by omega) hi hbk hbi e)
  exact key w' hd i hi b2
/-- relate -/
theorem k_relate {m l : PM} (H : CS μ) (hs : s = 22 ∨ s = 42) (hS : am_F μ 65 1 = s) (hv : KV X s m rs) (h3 : ∀ j, j < rs.length → ¬ Bad3 rs j) : Wp (d + 3) 9 (0, [some (.ref 65), none, none, none], [], sA μ m l) (pV (fun μ' => ∃ (m' l' : PM) (h : Nat), μ' = sA μ m' l' ∧ (∀ c j, ¬ (c = 67 ∨ (c = 65 ∧ j = 4)) → m' c j = m c j) ∧ (∀ c j, ¬ c = 68 → l' c j = l c j) ∧ RLt X rs m' l' h) noX) := by
  have F3 : am_F (sA μ m l) 65 3 = 67 := cF_65_3 H
  refine b9_0 (P := fun μ' => μ' = sA μ (flM m 67 1024 (-1)) l) (X := noX) (cK_65 H) (by rw [F3]; decide) ?_ (fun μ' hp => ?_) (fun _ _ z => z.elim)
  · rw [F3]
    exact k_fill (n1 := 1024) (cK_67 H) (by decide)
  have hp' : μ' = sA μ (flM m 67 1024 (-1)) l := hp
  rw [hp']
  have F5 : am_F (sA μ (flM m 67 1024 (-1)) l) 65 5 = 68 := cF_65_5 H
  refine b9_8 (P := fun μ' => μ' = sA μ (flM m 67 1024 (-1)) (flM l 68 62 0)) (X := noX) (cK_65 H) (by rw [F5]; decide) ?_ (fun μ'' hp2 => ?_) (fun _ _ z => z.elim)
  · rw [F5]
    exact k_lfill (n1 := 62) (v := 0) (cK_68 H) (by decide)
  have hp2' : μ'' = sA μ (flM m 67 1024 (-1)) (flM l 68 62 0) := hp2
  rw [hp2']
  refine K9_16 H hs hS (fun m1 e1 => ?_)
  have k1 : ∀ c j, ¬ (c = 67 ∨ (c = 65 ∧ j = 4)) → m1 c j = m c j := fun c j q => by rw [e1, up_o (by omega), flM_o (by omega)]
  have k67 : ∀ x, 0 ≤ x → x < 1024 → m1 67 x = -1 := fun x x0 x1 => by rw [e1, up_c (by decide), flM_i ⟨x0, x1⟩]
  have kl : ∀ c j, ¬ c = 68 → flM l 68 62 0 c j = l c j := fun c j q => flM_o (fun z => q z.1)
  have hv1 : KV X s m1 rs := KV_cg (fun c j q => k1 c j (by omega)) hv
  refine rl_23 (m0 := m) (X := X) H hs hS h3 (fun m2 h fr2 hB => ?_) rs.length 0 0 m1 (Nat.zero_add _) (Nat.le_refl _) k1 hv1 (by rw [e1, up_s]; rfl) (fun x x0 x1 => by rw [k67 x x0 x1]; omega) (fun x w hx => ?_) (fun x x0 x1 hne => absurd (k67 x x0 x1) hne) (fun x y x0 x1 _ _ _ hne => absurd (k67 x x0 x1) hne) (fun b hb => absurd hb (Nat.not_lt_zero b))
  · have hv2 : KV X s m2 rs := KV_cg (fun c j q => fr2 c j (by omega)) hv
    have h60 := hB.2.1
    refine rl_96 (l0 := l) H hs hS hv2 hB (fun l3 fr3 hl3 o2 o3 => ?_) rs.length 0 (flM l 68 62 0) none none (Nat.zero_add _) kl (fun b i hb hi => ?_)
    · refine wr_206 (l0 := l) H hs hS hv2 hB (fun l4 fr4 hW => ⟨m2, l4, h, rfl, fr2, fr4, hB, WI_end hv2 hB hW⟩) h 0 l3 _ _ (Nat.zero_add _) fr3 ⟨fun b i hb hi z => ?_, fun b i w w' hb hi z1 z2 z3 => ?_, fun j hj => absurd hj (Nat.not_lt_zero j)⟩
      · obtain ⟨q, q1, q2, c, hc, c3, q3⟩ := (hl3 b i hb hi).mp z
        have hhd : isHd rs (rs.getD q ruD).1.1 := ⟨q, q1, rfl⟩
        refine ⟨?_, _, _, q2, q3, Relation.TransGen.single ⟨_, (mem_gD rs ruD _).mpr ⟨q, q1, rfl⟩, rfl, c, hc, c3, rfl⟩⟩
        obtain ⟨x, hx, ex⟩ := q2
        have := hB.2.2.2.1 x _ hx hhd
        omega
      · obtain ⟨ru, hru, e, c, hc, c3, e'⟩ := z3
        obtain ⟨q, hq, eq⟩ := (mem_gD rs ruD ru).mp hru
        refine (hl3 b i hb hi).mpr ⟨q, hq, ?_, c, ?_, c3, ?_⟩
        · rw [eq, e]; exact z1
        · rw [eq]; exact hc
        · rw [e']; exact z2
    · rw [flM_i (by omega), bL_0]
      exact ⟨fun z => absurd z (by decide), fun ⟨q, q1, _⟩ => absurd q1 (Nat.not_lt_zero q)⟩
  · have b1 := hv.2.1.1 _ _ hx
    have b2 := hv.2.2.1.1 _ _ hx
    rw [k67 x b1.1 b2]
    exact ⟨fun z => absurd rfl z, fun ⟨q, q1, _⟩ => absurd q1 (Nat.not_lt_zero q)⟩
/-- depends, told of the rules -/
theorem dp_iff {m l : PM} {h : Nat} {x y : Int} {w w' : List Int} (hv : KV X s m rs) (hR : RLt X rs m l h) (hx : X x w) (hy : X y w') (hyb : ¬ m 67 y = -1) : dpP m l x y ↔ Dep rs w w' := by
  obtain ⟨hB, hN⟩ := hR
  have h60 := hB.2.1
  have bx := hB.2.2.1 x (hv.2.1.1 _ _ hx).1 (hv.2.2.1.1 _ _ hx)
  have by' := hB.2.2.1 y (hv.2.1.1 _ _ hy).1 (hv.2.2.1.1 _ _ hy)
  obtain ⟨i, ei⟩ : ∃ i : Nat, m 67 y = (i : Int) := ⟨(m 67 y).toNat, by omega⟩
  constructor
  · rintro ⟨z1, _, z2⟩
    obtain ⟨b, eb⟩ : ∃ b : Nat, m 67 x = (b : Int) := ⟨(m 67 x).toNat, by omega⟩
    rw [eb, ei] at z2
    have z3 := (bitL_iff (show i < 62 by omega)).mp z2
    by_cases c : b < h
    · obtain ⟨u, u', a1, a2, a3⟩ := (hN.1 b i c (by omega)).mp z3
      rw [BN_uq hv hB ⟨x, hx, eb⟩ a1, BN_uq hv hB ⟨y, hy, ei⟩ a2]
      exact a3
    · exact absurd z3 (hN.2 b i (by omega) (by omega) (by omega))
  · intro hd
    have hhd := Dep_hd hd
    have z := hB.2.2.2.1 x w hx hhd
    obtain ⟨b, eb⟩ : ∃ b : Nat, m 67 x = (b : Int) := ⟨(m 67 x).toNat, by omega⟩
    refine ⟨by omega, hyb, ?_⟩
    rw [eb, ei]
    exact (bitL_iff (show i < 62 by omega)).mpr ((hN.1 b i (by omega) (by omega)).mpr ⟨w, w', ⟨x, hx, eb⟩, ⟨y, hy, ei⟩, hd⟩)
theorem GDp_of {m l : PM} {h : Nat} {x y : Int} {w w' : List Int} (hv : KV X s m rs) (hR : RLt X rs m l h) (hx : X x w) (hy : X y w') : GDp m x y := by
  have bx := hv.2.1.1 _ _ hx
  have by' := hv.2.1.1 _ _ hy
  have cx := hv.2.2.1.1 _ _ hx
  have cy := hv.2.2.1.1 _ _ hy
  exact ⟨⟨⟨bx.1, cx⟩, hR.1.2.2.1 x bx.1 cx⟩, ⟨by'.1, cy⟩, hR.1.2.2.1 y by'.1 cy⟩
end CWR
