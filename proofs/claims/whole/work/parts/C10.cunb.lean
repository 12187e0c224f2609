/-! ===== the class's findUnbounded ===== -/
section CUB
variable {d : Nat} {μ : am_Mem} {s : Nat} {X : Int → List Int → Prop} {rs : List Rul} {m l : PM} {h : Nat}
theorem ih_21 {r : Nat} {x2 : Int} {q : List Cd} (H : CS μ) (hs : s = 22 ∨ s = 42) (hS : am_F μ 65 1 = s) (hv : KV X s m rs) (hR : RLt X rs m l h) (hr : r < rs.length) (hT : TcR X s 11 m x2 q) (hq0 : wfT 11 q) (g2 : GNc s m x2) (hno : ¬ q ∈ (rs.getD r ruD).1.2) : ∀ (f j : Nat), j + f = (psC (rs.getD r ruD).2).length → (¬ ∃ i, i < j ∧ q ∈ ((psC (rs.getD r ruD).2).getD i cnD).2.2 ∧ ¬ Trn rs (rs.getD r ruD) ((psC (rs.getD r ruD).2).getD i cnD).2.1) → Wp (d + 3) 18 (21, [some (.ref 65), some (.int (zI (r : Int))), some (.int (zI x2)), some (.int (zI (j : Int)))], [], sA μ m l) (pI (fun y μ' => y = zI (bP (Hld rs (rs.getD r ruD) q)) ∧ μ' = sA μ m l) noX) := by
  obtain ⟨k1, k2, k3, k4, k5, k6⟩ := KV_rule hv hr
  obtain ⟨a1, a2, a3, a4, a5⟩ := KV_head hv hr
  have e13 := k1.2.1.1
  intro f
  induction f with
  | zero =>
    intro j hf hn
    have ej : j = (psC (rs.getD r ruD).2).length := by omega
    rw [ej] at hn
    refine K18_21 H hs hS ⟨by omega, by unfold iR; omega, by unfold iR; omega, fun _ => ⟨?_, rfl⟩, fun z => absurd (by omega) z⟩
    rw [bP_0]
    rintro (z | ⟨c, hc, c1, z⟩)
    · exact hno z
    · exact hn ((ex_ps (P := fun c => q ∈ c.2.2 ∧ ¬ Trn rs (rs.getD r ruD) c.2.1)).mpr ⟨c, hc, c1, z⟩)
  | succ f ih =>
    intro j hf hn
    obtain ⟨p1, p2, p3⟩ := KV_pos hv hr (show j < _ by omega)
    obtain ⟨q1, q2, q3, q4, q5, q6⟩ := KV_cond hv hr p1 p3
    have hx := (q5 (by omega)).1
    have ti := trn_iff hv hR hr hx
    have hA := ac_T hv.2.1 q1.1 p3 hT hq0
    have e : (j : Int) + 1 = ((j + 1 : Nat) : Int) := by omega
    have nxt : ¬ (q ∈ ((psC (rs.getD r ruD).2).getD j cnD).2.2 ∧ ¬ Trn rs (rs.getD r ruD) ((psC (rs.getD r ruD).2).getD j cnD).2.1) → ¬ ∃ i, i < j + 1 ∧ q ∈ ((psC (rs.getD r ruD).2).getD i cnD).2.2 ∧ ¬ Trn rs (rs.getD r ruD) ((psC (rs.getD r ruD).2).getD i cnD).2.1 := by
      rintro hno' ⟨i, hi, w⟩
      by_cases c : i = j
      · rw [c] at w; exact hno' w
      · exact hn ⟨i, by omega, w⟩
    refine K18_21 H hs hS ⟨by omega, by unfold iR; omega, by unfold iR; omega, fun z => absurd z (by omega), fun _ => ⟨by omega, by omega, fun v1 e1 => ⟨by omega, by omega, fun v2 e2 => ?_⟩⟩⟩
    rw [e1, e2]
    refine ⟨GDp_of hv hR hx a3, fun v3 e3 => ⟨fun z => ?_, fun z v4 e4 => ?_⟩⟩
    · rw [e]
      have yt := ti.mp (Classical.byContradiction fun w => z (by rw [e3]; exact bP_z.mpr w))
      exact ih (j + 1) (by omega) (nxt fun w => w.2 yt)
    · have nt : ¬ Trn rs (rs.getD r ruD) ((psC (rs.getD r ruD).2).getD j cnD).2.1 := fun w => by
        have z' : v3 = 0 := Decidable.byContradiction z
        rw [e3] at z'
        exact bP_z.mp z' (ti.mpr w)
      rw [e4]
      refine ⟨q6, g2, fun y => ?_, fun y => ⟨?_, rfl⟩⟩
      · rw [e]
        exact ih (j + 1) (by omega) (nxt fun w => bP_z.mp y (hA.mpr w.1))
      · have hin := hA.mp (Classical.byContradiction fun w => y (bP_z.mpr w))
        rw [bP_1 (show Hld rs (rs.getD r ruD) q from Or.inr ⟨_, p1, p2, hin, nt⟩)]
theorem k_isHeld {r : Nat} {x2 : Int} {q : List Cd} (H : CS μ) (hs : s = 22 ∨ s = 42) (hS : am_F μ 65 1 = s) (hv : KV X s m rs) (hR : RLt X rs m l h) (hr : r < rs.length) (hT : TcR X s 11 m x2 q) (hq0 : wfT 11 q) (g2 : GNc s m x2) : Wp (d + 3) 18 (0, [some (.ref 65), some (.int (zI (r : Int))), some (.int (zI x2)), none], [], sA μ m l) (pI (fun y μ' => y = zI (bP (Hld rs (rs.getD r ruD) q)) ∧ μ' = sA μ m l) noX) := by
  obtain ⟨k1, k2, k3, k4, k5, k6⟩ := KV_rule hv hr
  obtain ⟨a1, a2, a3, a4, a5⟩ := KV_head hv hr
  have hA := ac_T hv.2.1 (c := (1, (rs.getD r ruD).1)) a2 a1 hT hq0
  refine K18_0 H hs hS ⟨by omega, ac_good hv.2.1 (c := (1, (rs.getD r ruD).1)) k4.2 a2 a1, g2, fun v1 e1 => ⟨fun z => ?_, fun z => ⟨?_, rfl⟩⟩⟩
  · rw [e1] at z
    exact ih_21 H hs hS hv hR hr hT hq0 g2 (fun w => bP_z.mp z (hA.mpr w)) (psC (rs.getD r ruD).2).length 0 (Nat.zero_add _) (fun ⟨i, hi, _⟩ => absurd hi (Nat.not_lt_zero i))
  · have hin := hA.mp (Classical.byContradiction fun w => z (by rw [e1]; exact bP_z.mpr w))
    rw [bP_1 (show Hld rs (rs.getD r ruD) q from Or.inl hin)]
theorem hasV_0 {x : Int} {p : List Cd} (hT : TcR X s 11 m x p) : m (s + 10) x = 0 ↔ ¬ hasV p := by
  rw [(TcR_top hT).2.1]
  have z := vmC_0 p
  exact ⟨fun y => z.mp (by omega), fun y => by rw [z.mpr y]; rfl⟩
theorem bd_2 {r : Nat} {a : Int} {c : Nat × Atm} (H : CS μ) (hs : s = 22 ∨ s = 42) (hS : am_F μ 65 1 = s) (hv : KV X s m rs) (hR : RLt X rs m l h) (hr : r < rs.length) (hA : AtC X s m (m s 6) a c) (ok : OkA c.2) : ∀ (f j : Nat) (o4 : Option Value), j + f = c.2.2.length → (¬ ∃ i, i < j ∧ Wld rs r (c.2.2.getD i [])) → Wp (d + 4) 17 (2, [some (.ref 65), some (.int (zI (r : Int))), some (.int (zI a)), some (.int (zI (j : Int))), o4], [], sA μ m l) (pI (fun y μ' => y = zI (bP (¬ ∃ p, p ∈ c.2.2 ∧ Wld rs r p)) ∧ μ' = sA μ m l) noX) := by
  obtain ⟨⟨h0, h1⟩, h2, ⟨h3, h4⟩, h5, h6⟩ := ac_nodes hA
  obtain ⟨n1, n2, n3, n4⟩ := KV_n hv
  intro f
  induction f with
  | zero =>
    intro j o4 hf hn
    have ej : j = c.2.2.length := by omega
    rw [ej] at hn
    refine K17_2 H hs hS ⟨by omega, by unfold iR; omega, by unfold iR; omega, fun _ => ⟨?_, rfl⟩, fun z => absurd (by omega) z⟩
    rw [bP_1]
    rintro ⟨p, hp, w⟩
    obtain ⟨i, hi, e⟩ := (mem_gD c.2.2 [] p).mp hp
    exact hn ⟨i, hi, by rw [e]; exact w⟩
  | succ f ih =>
    intro j o4 hf hn
    obtain ⟨x, c1, c2, c3, c4⟩ := h6 j (by omega)
    have wf : wfT 11 (c.2.2.getD j []) := ok.2 _ ((mem_gD c.2.2 [] _).mpr ⟨j, by omega, rfl⟩)
    obtain ⟨t1, t2, t3⟩ := TcR_top c4
    have hv0 := hasV_0 c4
    have hlt : vmC (c.2.2.getD j []) < 256 := vmC_lt _ fun c' hc' h5' => (wfT_ok 11 _ wf c' hc' h5').2
    have g2 := tc_good hv.2.1 c4 wf c2 (by omega)
    have e : (j : Int) + 1 = ((j + 1 : Nat) : Int) := by omega
    have nxt : ¬ Wld rs r (c.2.2.getD j []) → ¬ ∃ i, i < j + 1 ∧ Wld rs r (c.2.2.getD i []) := by
      rintro hno ⟨i, hi, w⟩
      by_cases ci : i = j
      · rw [ci] at w; exact hno w
      · exact hn ⟨i, by omega, w⟩
    refine K17_2 H hs hS ⟨by omega, by unfold iR; omega, by unfold iR; omega, fun z => absurd z (by omega), fun _ => ⟨by omega, ?_⟩⟩
    rw [c1]
    refine ⟨by omega, by rw [t2]; unfold iR; omega, fun z v1 e1 => ?_, fun z v2 e2 => ?_⟩
    · rw [e]
      exact ih (j + 1) _ (by omega) (nxt fun w => hv0.mp z w.1)
    · rw [e2]
      refine ⟨_, noX, k_isHeld H hs hS hv hR hr c4 wf g2, fun y μ' hy => ?_, fun _ _ z => z.elim⟩
      obtain ⟨rfl, rfl⟩ := hy
      refine K17_50 H hs hS ⟨bP_R _, fun y => ?_, fun y => ⟨?_, rfl⟩⟩
      · rw [e]
        have hh : Hld rs (rs.getD r ruD) (c.2.2.getD j []) := Classical.byContradiction fun w => y (bP_z.mpr w)
        exact ih (j + 1) _ (by omega) (nxt fun w => w.2 hh)
      · have y' : bP (Hld rs (rs.getD r ruD) (c.2.2.getD j [])) = 0 := Decidable.byContradiction y
        have nh := bP_z.mp y'
        have hvv : hasV (c.2.2.getD j []) := Classical.byContradiction fun w => z (hv0.mpr w)
        rw [bP_0 (not_not_intro ⟨_, (mem_gD c.2.2 [] _).mpr ⟨j, by omega, rfl⟩, hvv, nh⟩)]
theorem k_isBounded {r : Nat} {a : Int} {c : Nat × Atm} (H : CS μ) (hs : s = 22 ∨ s = 42) (hS : am_F μ 65 1 = s) (hv : KV X s m rs) (hR : RLt X rs m l h) (hr : r < rs.length) (hA : AtC X s m (m s 6) a c) (ok : OkA c.2) : Wp (d + 4) 17 (0, [some (.ref 65), some (.int (zI (r : Int))), some (.int (zI a)), none, none], [], sA μ m l) (pI (fun y μ' => y = zI (bP (¬ ∃ p, p ∈ c.2.2 ∧ Wld rs r p)) ∧ μ' = sA μ m l) noX) := by
  refine K17_0 H hs hS ?_
  exact bd_2 H hs hS hv hR hr hA ok c.2.2.length 0 none (Nat.zero_add _) (fun ⟨i, hi, _⟩ => absurd hi (Nat.not_lt_zero i))
/-- a condition that turns back and isn't bounded -/
def R7c (rs : List Rul) (r : Nat) (c : Nat × Atm) : Prop := Trn rs (rs.getD r ruD) c.2.1 ∧ ∃ p, p ∈ c.2.2 ∧ Wld rs r p
theorem ub_15 {r : Nat} {Q : Option Value ⊕ Nat → am_Mem → Prop} (H : CS μ) (hs : s = 22 ∨ s = 42) (hS : am_F μ 65 1 = s) (hv : KV X s m rs) (hR : RLt X rs m l h) (hr : r < rs.length) (hq : (¬ ∃ i, i < (psC (rs.getD r ruD).2).length ∧ R7c rs r ((psC (rs.getD r ruD).2).getD i cnD)) → ∀ o2 : Option Value, Wp (d + 5) 16 (2, [some (.ref 65), some (.int (zI ((r : Int) + 1))), o2], [], sA μ m l) Q) (hb : Bad7 rs r → Q (.inl (some (.int (zI (r : Int))))) (sA μ m l)) : ∀ (f j : Nat), j + f = (psC (rs.getD r ruD).2).length → (¬ ∃ i, i < j ∧ R7c rs r ((psC (rs.getD r ruD).2).getD i cnD)) → Wp (d + 5) 16 (15, [some (.ref 65), some (.int (zI (r : Int))), some (.int (zI (j : Int)))], [], sA μ m l) Q := by
  obtain ⟨k1, k2, k3, k4, k5, k6⟩ := KV_rule hv hr
  obtain ⟨a1, a2, a3, a4, a5⟩ := KV_head hv hr
  have e13 := k1.2.1.1
  intro f
  induction f with
  | zero =>
    intro j hf hn
    have ej : j = (psC (rs.getD r ruD).2).length := by omega
    rw [ej] at hn
    exact K16_15 H hs hS ⟨by omega, by unfold iR; omega, by unfold iR; omega, fun _ => hq hn _, fun z => absurd (by omega) z⟩
  | succ f ih =>
    intro j hf hn
    obtain ⟨p1, p2, p3⟩ := KV_pos hv hr (show j < _ by omega)
    obtain ⟨q1, q2, q3, q4, q5, q6⟩ := KV_cond hv hr p1 p3
    have hx := (q5 (by omega)).1
    have ti := trn_iff hv hR hr hx
    have e : (j : Int) + 1 = ((j + 1 : Nat) : Int) := by omega
    have nxt : ¬ R7c rs r ((psC (rs.getD r ruD).2).getD j cnD) → ¬ ∃ i, i < j + 1 ∧ R7c rs r ((psC (rs.getD r ruD).2).getD i cnD) := by
      rintro hno ⟨i, hi, w⟩
      by_cases c : i = j
      · rw [c] at w; exact hno w
      · exact hn ⟨i, by omega, w⟩
    refine K16_15 H hs hS ⟨by omega, by unfold iR; omega, by unfold iR; omega, fun z => absurd z (by omega), fun _ => ⟨by omega, by omega, fun v1 e1 => ⟨by omega, by omega, fun v2 e2 => ?_⟩⟩⟩
    rw [e1, e2]
    refine ⟨GDp_of hv hR hx a3, fun v3 e3 => ⟨fun z => ?_, fun z v4 e4 => ?_⟩⟩
    · rw [e]
      rw [e3] at z
      exact ih (j + 1) (by omega) (nxt fun w => bP_z.mp z (ti.mpr w.1))
    · have yt := ti.mp (Classical.byContradiction fun w => z (by rw [e3]; exact bP_z.mpr w))
      rw [e4]
      refine ⟨_, noX, k_isBounded H hs hS hv hR hr p3 q1.1, fun y μ' hy => ?_, fun _ _ z => z.elim⟩
      obtain ⟨rfl, rfl⟩ := hy
      refine K16_60 H hs hS ⟨bP_R _, fun y => ?_, fun y => hb ?_⟩
      · rw [e]
        have nh : ¬ ∃ p, p ∈ ((psC (rs.getD r ruD).2).getD j cnD).2.2 ∧ Wld rs r p := Classical.byContradiction fun w => y (bP_z.mpr w)
        exact ih (j + 1) (by omega) (nxt fun w => nh w.2)
      · have y' : bP (¬ ∃ p, p ∈ ((psC (rs.getD r ruD).2).getD j cnD).2.2 ∧ Wld rs r p) = 0 := Decidable.byContradiction y
        have hp : ∃ p, p ∈ ((psC (rs.getD r ruD).2).getD j cnD).2.2 ∧ Wld rs r p := Classical.byContradiction fun w => bP_z.mp y' w
        exact ⟨_, p1, p2, yt, hp⟩
theorem ub_2 {Q : Option Value ⊕ Nat → am_Mem → Prop} (H : CS μ) (hs : s = 22 ∨ s = 42) (hS : am_F μ 65 1 = s) (hv : KV X s m rs) (hR : RLt X rs m l h) (hq : Q (.inl (some (.int (zI (plc (Bad7 rs) rs.length))))) (sA μ m l)) : ∀ (f r : Nat) (o2 : Option Value), r + f = rs.length → (∀ j, j < r → ¬ Bad7 rs j) → Wp (d + 5) 16 (2, [some (.ref 65), some (.int (zI (r : Int))), o2], [], sA μ m l) Q := by
  obtain ⟨n1, n2, n3, n4⟩ := KV_n hv
  intro f
  induction f with
  | zero =>
    intro r o2 hf hn
    refine K16_2 H hs hS ⟨by unfold iR; omega, by unfold iR; omega, fun _ => ?_, fun z => absurd (by omega) z⟩
    rw [plc_none (fun j hj => hn j (by omega))] at hq
    exact hq
  | succ f ih =>
    intro r o2 hf hn
    have hr : r < rs.length := by omega
    refine K16_2 H hs hS ⟨by unfold iR; omega, by unfold iR; omega, fun z => absurd z (by omega), fun _ => ?_⟩
    refine ub_15 H hs hS hv hR hr (fun hno o2 => ih (r + 1) _ (by omega) (fun j hj => ?_)) (fun hb => ?_) (psC (rs.getD r ruD).2).length 0 (Nat.zero_add _) (fun ⟨i, hi, _⟩ => absurd hi (Nat.not_lt_zero i))
    · by_cases c : j = r
      · rw [c]
        rintro ⟨x, hx, x1, xt, xp⟩
        exact hno ((ex_ps (P := fun c => R7c rs r c)).mpr ⟨x, hx, x1, xt, xp⟩)
      · exact hn j (by omega)
    · rw [plc_at hr hn hb] at hq
      exact hq
/-- findUnbounded -/
theorem k_findUnbounded (H : CS μ) (hs : s = 22 ∨ s = 42) (hS : am_F μ 65 1 = s) (hv : KV X s m rs) (hR : RLt X rs m l h) : Wp (d + 5) 16 (0, [some (.ref 65), none, none], [], sA μ m l) (pI (fun y μ' => y = zI (plc (Bad7 rs) rs.length) ∧ μ' = sA μ m l) noX) := by
  refine K16_0 H hs hS ?_
  exact ub_2 H hs hS hv hR ⟨rfl, rfl⟩ rs.length 0 none (Nat.zero_add _) (fun j hj => absurd hj (Nat.not_lt_zero j))
end CUB
