/-! ===== the class's findWidth ===== -/
/-- the place of a fault, or none -/
noncomputable def plc (P : Nat → Prop) (n : Nat) : Int := if lst P 0 n < n then (lst P 0 n : Int) else -1
theorem plc_none {P : Nat → Prop} {n : Nat} (h : ∀ j, j < n → ¬ P j) : plc P n = -1 := by
  have z := lst_eq (P := P) (n := n) (x := n) (Nat.le_refl _) h (fun q => absurd q (Nat.lt_irrefl _))
  unfold plc
  rw [if_neg (by omega)]
theorem plc_at {P : Nat → Prop} {n r : Nat} (hr : r < n) (h : ∀ j, j < r → ¬ P j) (hp : P r) : plc P n = (r : Int) := by
  have z := lst_eq (P := P) (n := n) (x := r) (by omega) h (fun _ => hp)
  unfold plc
  rw [if_pos (by omega), z]
def S66 (m : PM) : Prop := ∀ x, 0 ≤ x → x < 1024 → -1 ≤ m 66 x ∧ m 66 x ≤ 4
/-- the atoms of S and that of a condition -/
def SA2 (S : Atm → Prop) (c : Nat × Atm) (b : Atm) : Prop := S b ∨ (c.1 < 3 ∧ b = c.2)
theorem oc_R2 (w : List Int) : -1 ≤ ownC w := by
  unfold ownC
  repeat' split
  all_goals omega
section CWD
variable {d : Nat} {μ : am_Mem} {l : PM} {s : Nat} {X : Int → List Int → Prop} {rs : List Rul}
theorem k_hasWidth {m : PM} {k : Int} {c : Nat × Atm} {S : Atm → Prop} (H : CS μ) (hs : s = 22 ∨ s = 42) (hS : am_F μ 65 1 = s) (hv : KV X s m rs) (h66 : S66 m) (hA : AtC X s m (m s 6) k c) (h3 : c.1 = 3 → m (s + 6) k = 9) (hx : c.1 < 3 → X (m (s + 6) k) c.2.1 ∧ ¬ m (s + 6) k = 9) (hc3 : c.1 ≤ 3) (C : Cns S) (T : T2 X (m 66) S) :
  Wp d 3 (0, [some (.ref 65), some (.int (zI k)), none], [], sA μ m l) (pI (fun y μ' => ∃ m', μ' = sA μ m' l ∧ (∀ c j, ¬ c = 66 → m' c j = m c j) ∧ S66 m' ∧ ((y = zI 1 ∧ Cns (SA2 S c) ∧ T2 X (m' 66) (SA2 S c)) ∨ (y = zI 0 ∧ ¬ Cns (SA2 S c)))) noX) := by
  obtain ⟨⟨h0, h1⟩, _, ⟨h7, h8⟩, _, _⟩ := ac_nodes hA
  obtain ⟨n1, n2, n3, n4⟩ := KV_n hv
  have hX := hv.2.1
  by_cases c3 : c.1 = 3
  · have e9 := h3 c3
    refine K3_0 H hs hS ⟨by omega, by rw [e9]; decide, fun z => absurd e9 z, fun _ => ⟨m, rfl, fun _ _ _ => rfl, h66, Or.inl ⟨rfl, ?_⟩⟩⟩
    have e : SA2 S c = S := funext fun b => propext ⟨fun z => by
      rcases z with z | z
      · exact z
      · omega, fun z => Or.inl z⟩
    rw [e]
    exact ⟨C, T⟩
  · have hc : c.1 < 3 := by omega
    obtain ⟨hx1, hx9⟩ := hx hc
    have b1 := hX.1 _ _ hx1
    have b2 := hv.2.2.1.1 _ _ hx1
    have hb := h66 _ b1.1 b2
    have e : SA2 S c = fun b => S b ∨ b = c.2 := funext fun b => propext ⟨fun z => by
      rcases z with z | z
      · exact Or.inl z
      · exact Or.inr z.2, fun z => by
      rcases z with z | z
      · exact Or.inl z
      · exact Or.inr ⟨hc, z⟩⟩
    rw [e]
    refine K3_0 H hs hS ⟨by omega, by unfold iR; omega, fun _ => ⟨by omega, by unfold iR; omega, fun z => ⟨by unfold iR; omega, fun v1 e1 => ?_⟩, fun z m2 e2 => ⟨by unfold iR; omega, fun v3 e3 => ?_⟩⟩, fun z => absurd (Decidable.byContradiction z) hx9⟩
    · have st := T2_step (N := X) (row' := m 66) hX.2.1 hX.2.2.1 hx1 T C (fun _ _ => rfl) (by rw [if_pos (by omega)])
      refine ⟨m, rfl, fun _ _ _ => rfl, h66, ?_⟩
      by_cases ce : m 66 (m (s + 6) k) = m (s + 7) k
      · rw [if_neg (not_not_intro ce)] at e1
        rw [e1]
        exact Or.inl ⟨rfl, st.1 (by omega)⟩
      · rw [if_pos ce] at e1
        rw [e1]
        exact Or.inr ⟨rfl, st.2 (by omega)⟩
    · have z' : m 66 (m (s + 6) k) = -1 := Decidable.byContradiction z
      rw [if_neg (not_not_intro rfl)] at e3
      rw [e3]
      have r1 : m2 66 (m (s + 6) k) = (c.2.2.length : Int) := by rw [e2, up_s]; exact h7
      have r2 : ∀ y, ¬ y = m (s + 6) k → m2 66 y = m 66 y := fun y q => by rw [e2]; exact up_i q
      have st := T2_step (N := X) (row' := m2 66) hX.2.1 hX.2.2.1 hx1 T C r2 (by rw [r1, if_neg (by omega)])
      refine ⟨m2, rfl, fun c' j q => by rw [e2]; exact up_c q, fun x x0 x1 => ?_, Or.inl ⟨rfl, st.1 r1⟩⟩
      by_cases cx : x = m (s + 6) k
      · rw [cx, r1]; omega
      · rw [r2 x cx]; exact h66 x x0 x1
/-- the state of findWidth within rule r -/
def FW (X : Int → List Int → Prop) (s : Nat) (rs : List Rul) (r : Nat) (S : Atm → Prop) (m0 m : PM) (x2 : Int) : Prop := (∀ c j, ¬ c = 66 → m c j = m0 c j) ∧ KV X s m rs ∧ S66 m ∧ ((x2 = 1 ∧ Cns S ∧ T2 X (m 66) S) ∨ (x2 = 0 ∧ Bad2 rs r))
theorem FW_iff {r : Nat} {S S' : Atm → Prop} {m0 m : PM} {x2 : Int} (h : FW X s rs r S m0 m x2) (hS : ∀ b, S b ↔ S' b) : FW X s rs r S' m0 m x2 := by
  have e : S = S' := funext fun b => propext (hS b)
  rw [← e]
  exact h
theorem FW_b {r : Nat} {S : Atm → Prop} {m0 m : PM} {x2 : Int} (h : FW X s rs r S m0 m x2) : x2 = 0 ∨ x2 = 1 := by
  rcases h.2.2.2 with z | z
  · exact Or.inr z.1
  · exact Or.inl z.1
/-- a call of hasWidth within rule r -/
theorem FW_call {m m0 : PM} {r : Nat} {k : Int} {c : Nat × Atm} {S : Atm → Prop} (H : CS μ) (hs : s = 22 ∨ s = 42) (hS : am_F μ 65 1 = s) (h : FW X s rs r S m0 m 1) (hA : AtC X s m (m s 6) k c) (h3 : c.1 = 3 → m (s + 6) k = 9) (hx : c.1 < 3 → X (m (s + 6) k) c.2.1 ∧ ¬ m (s + 6) k = 9) (hc3 : c.1 ≤ 3) (hsub : ∀ b, SA2 S c b → upA rs (r + 1) b) :
  Wp d 3 (0, [some (.ref 65), some (.int (zI k)), none], [], sA μ m l) (pI (fun y μ' => ∃ (x2 : Int) (m' : PM), y = zI x2 ∧ (x2 = 0 ∨ x2 = 1) ∧ μ' = sA μ m' l ∧ FW X s rs r (SA2 S c) m0 m' x2) noX) := by
  obtain ⟨f1, f2, f3, f4⟩ := h
  have f5 : Cns S ∧ T2 X (m 66) S := by
    rcases f4 with z | z
    · exact z.2
    · exact absurd z.1 (by decide)
  refine (k_hasWidth (l := l) (d := d) H hs hS f2 f3 hA h3 hx hc3 f5.1 f5.2).mono (fun o μ' ho => pI_map (fun y μ'' hy => ?_) ho)
  obtain ⟨m', e, g1, g2, g3⟩ := hy
  have fr : ∀ c j, ¬ c = 66 → m' c j = m0 c j := fun c j q => by rw [g1 c j q]; exact f1 c j q
  have kv : KV X s m' rs := KV_cg (fun c j q => g1 c j (by omega)) f2
  rcases g3 with ⟨z1, z2, z3⟩ | ⟨z1, z2⟩
  · exact ⟨1, m', z1, Or.inr rfl, e, fr, kv, g2, Or.inl ⟨rfl, z2, z3⟩⟩
  · exact ⟨0, m', z1, Or.inl rfl, e, fr, kv, g2, Or.inr ⟨rfl, fun q => z2 (Cns_mono hsub q)⟩⟩
def Sp (rs : List Rul) (r j : Nat) (b : Atm) : Prop := upA rs r b ∨ b = (rs.getD r ruD).1 ∨ ∃ i, i < j ∧ ((psC (rs.getD r ruD).2).getD i cnD).1 < 3 ∧ b = ((psC (rs.getD r ruD).2).getD i cnD).2
def So (rs : List Rul) (r j : Nat) (b : Atm) : Prop := Sp rs r (psC (rs.getD r ruD).2).length b ∨ ∃ i, i < j ∧ ((otC (rs.getD r ruD).2).getD i cnD).1 < 3 ∧ b = ((otC (rs.getD r ruD).2).getD i cnD).2
theorem Sp_up {r j : Nat} {b : Atm} (hj : j ≤ (psC (rs.getD r ruD).2).length) (h : Sp rs r j b) : upA rs (r + 1) b := by
  rcases h with ⟨q, q1, q2⟩ | h | ⟨i, hi, h3, h⟩
  · exact ⟨q, by omega, q2⟩
  · exact ⟨r, by omega, Or.inl h⟩
  · have z := psC_mem.mp ((mem_gD (psC (rs.getD r ruD).2) cnD _).mpr ⟨i, by omega, rfl⟩)
    exact ⟨r, by omega, Or.inr ⟨_, z.1, h3, h.symm⟩⟩
theorem So_up {r j : Nat} {b : Atm} (hj : j ≤ (otC (rs.getD r ruD).2).length) (h : So rs r j b) : upA rs (r + 1) b := by
  rcases h with h | ⟨i, hi, h3, h⟩
  · exact Sp_up (Nat.le_refl _) h
  · have z := otC_mem.mp ((mem_gD (otC (rs.getD r ruD).2) cnD _).mpr ⟨i, by omega, rfl⟩)
    exact ⟨r, by omega, Or.inr ⟨_, z.1, h3, h.symm⟩⟩
theorem up_So {r : Nat} {b : Atm} (h : upA rs (r + 1) b) : So rs r (otC (rs.getD r ruD).2).length b := by
  obtain ⟨q, q1, q2⟩ := h
  by_cases c : q = r
  · rw [c] at q2
    rcases q2 with q2 | ⟨x, hx, h3, h4⟩
    · exact Or.inl (Or.inr (Or.inl q2))
    · by_cases x1 : x.1 = 1
      · obtain ⟨i, hi, e⟩ := (mem_gD (psC (rs.getD r ruD).2) cnD x).mp (psC_mem.mpr ⟨hx, x1⟩)
        exact Or.inl (Or.inr (Or.inr ⟨i, hi, by rw [e]; exact h3, by rw [e]; exact h4.symm⟩))
      · obtain ⟨i, hi, e⟩ := (mem_gD (otC (rs.getD r ruD).2) cnD x).mp (otC_mem.mpr ⟨hx, x1⟩)
        exact Or.inr ⟨i, hi, by rw [e]; exact h3, by rw [e]; exact h4.symm⟩
  · exact Or.inl (Or.inl ⟨q, by omega, q2⟩)
theorem fw_100 {m0 : PM} {r : Nat} {Q : Option Value ⊕ Nat → am_Mem → Prop} (H : CS μ) (hs : s = 22 ∨ s = 42) (hS : am_F μ 65 1 = s) (hr : r < rs.length) (hq : ∀ m, FW X s rs r (upA rs (r + 1)) m0 m 1 → ∀ o2 o3 : Option Value, Wp (d + 2) 2 (26, [some (.ref 65), some (.int (zI ((r : Int) + 1))), o2, o3], [], sA μ m l) Q) (hb : ∀ m, (∀ c j, ¬ c = 66 → m c j = m0 c j) → S66 m → Bad2 rs r → Q (.inl (some (.int (zI (r : Int))))) (sA μ m l)) : ∀ (f j : Nat) (m : PM) (x2 : Int), j + f = (otC (rs.getD r ruD).2).length → FW X s rs r (So rs r j) m0 m x2 → Wp (d + 2) 2 (100, [some (.ref 65), some (.int (zI (r : Int))), some (.int (zI x2)), some (.int (zI (j : Int)))], [], sA μ m l) Q := by
  intro f
  induction f with
  | zero =>
    intro j m x2 hf h
    obtain ⟨k1, k2, k3, k4, k5, k6⟩ := KV_rule h.2.1 hr
    have e16 := k1.2.2.1.1
    have hb2 := FW_b h
    refine K2_100 H hs hS ⟨by omega, by unfold iR; omega, by unfold iR; omega, fun _ => ⟨by unfold iR; omega, fun z => ?_, fun z => ?_⟩, fun z => absurd (by omega) z⟩
    · have e1 : x2 = 1 := by omega
      rw [e1] at h
      refine hq m (FW_iff h fun b => ?_) _ _
      have ej : j = (otC (rs.getD r ruD).2).length := by omega
      rw [ej]
      exact ⟨So_up (Nat.le_refl _), up_So⟩
    · have e0 : x2 = 0 := Decidable.byContradiction z
      rcases h.2.2.2 with w | w
      · omega
      · exact hb m h.1 h.2.2.1 w.2
  | succ f ih =>
    intro j m x2 hf h
    obtain ⟨k1, k2, k3, k4, k5, k6⟩ := KV_rule h.2.1 hr
    obtain ⟨p1, p2, p3⟩ := KV_oth h.2.1 hr (show j < _ by omega)
    obtain ⟨q1, q2, q3, q4, q5, q6⟩ := KV_cond h.2.1 hr p1 p3
    have e16 := k1.2.2.1.1
    have hb2 := FW_b h
    have e : (j : Int) + 1 = ((j + 1 : Nat) : Int) := by omega
    have hc3 : ((otC (rs.getD r ruD).2).getD j cnD).1 ≤ 3 := by
      rcases q1.2 with z | z | z
      · omega
      · omega
      · have := z.1; omega
    refine K2_100 H hs hS ⟨by omega, by unfold iR; omega, by unfold iR; omega, fun z => absurd z (by omega), fun _ => ⟨by unfold iR; omega, fun z => ?_, fun z => ⟨by omega, fun v1 e1 => ?_⟩⟩⟩
    · rw [e]
      refine ih (j + 1) m 0 (by omega) ⟨h.1, h.2.1, h.2.2.1, ?_⟩
      rcases h.2.2.2 with w | w
      · omega
      · exact Or.inr ⟨rfl, w.2⟩
    · have e1' : x2 = 1 := by omega
      rw [e1'] at h
      rw [e1]
      refine ⟨_, noX, FW_call H hs hS h p3 q4 q5 hc3 (fun b hb => ?_), fun y μ' hy => ?_, fun _ _ z => z.elim⟩
      · rcases hb with hb | ⟨hb3, hb⟩
        · exact So_up (by omega) hb
        · exact So_up (j := j + 1) (by omega) (Or.inr ⟨j, by omega, hb3, hb⟩)
      obtain ⟨x', m', rfl, hx', rfl, h'⟩ := hy
      refine K2_130 H hs hS ⟨by unfold iR; omega, fun v2 e2 => ?_⟩
      have ev : v2 = x' := by
        rw [e2]
        rcases hx' with z | z
        · rw [if_pos z, z]
        · rw [if_neg (by omega), z]
      rw [ev, e]
      refine ih (j + 1) m' x' (by omega) (FW_iff h' fun b => ⟨fun w => ?_, fun w => ?_⟩)
      · rcases w with (w | ⟨i, hi, w⟩) | w
        · exact Or.inl w
        · exact Or.inr ⟨i, by omega, w⟩
        · exact Or.inr ⟨j, by omega, w⟩
      · rcases w with w | ⟨i, hi, w⟩
        · exact Or.inl (Or.inl w)
        · by_cases ei : i = j
          · rw [ei] at w; exact Or.inr w
          · exact Or.inl (Or.inr ⟨i, by omega, w⟩)
theorem fw_53 {m0 : PM} {r : Nat} {Q : Option Value ⊕ Nat → am_Mem → Prop} (H : CS μ) (hs : s = 22 ∨ s = 42) (hS : am_F μ 65 1 = s) (hr : r < rs.length) (hq : ∀ m, FW X s rs r (upA rs (r + 1)) m0 m 1 → ∀ o2 o3 : Option Value, Wp (d + 2) 2 (26, [some (.ref 65), some (.int (zI ((r : Int) + 1))), o2, o3], [], sA μ m l) Q) (hb : ∀ m, (∀ c j, ¬ c = 66 → m c j = m0 c j) → S66 m → Bad2 rs r → Q (.inl (some (.int (zI (r : Int))))) (sA μ m l)) : ∀ (f j : Nat) (m : PM) (x2 : Int), j + f = (psC (rs.getD r ruD).2).length → FW X s rs r (Sp rs r j) m0 m x2 → Wp (d + 2) 2 (53, [some (.ref 65), some (.int (zI (r : Int))), some (.int (zI x2)), some (.int (zI (j : Int)))], [], sA μ m l) Q := by
  intro f
  induction f with
  | zero =>
    intro j m x2 hf h
    obtain ⟨k1, k2, k3, k4, k5, k6⟩ := KV_rule h.2.1 hr
    have e13 := k1.2.1.1
    refine K2_53 H hs hS ⟨by omega, by unfold iR; omega, by unfold iR; omega, fun _ => ?_, fun z => absurd (by omega) z⟩
    refine fw_100 (m0 := m0) H hs hS hr hq hb (otC (rs.getD r ruD).2).length 0 m x2 (Nat.zero_add _) (FW_iff h fun b => ?_)
    have ej : j = (psC (rs.getD r ruD).2).length := by omega
    rw [ej]
    exact ⟨fun w => Or.inl w, fun w => by
      rcases w with w | ⟨i, hi, _⟩
      · exact w
      · exact absurd hi (Nat.not_lt_zero i)⟩
  | succ f ih =>
    intro j m x2 hf h
    obtain ⟨k1, k2, k3, k4, k5, k6⟩ := KV_rule h.2.1 hr
    obtain ⟨p1, p2, p3⟩ := KV_pos h.2.1 hr (show j < _ by omega)
    obtain ⟨q1, q2, q3, q4, q5, q6⟩ := KV_cond h.2.1 hr p1 p3
    have e13 := k1.2.1.1
    have hb2 := FW_b h
    have e : (j : Int) + 1 = ((j + 1 : Nat) : Int) := by omega
    refine K2_53 H hs hS ⟨by omega, by unfold iR; omega, by unfold iR; omega, fun z => absurd z (by omega), fun _ => ⟨by unfold iR; omega, fun z => ?_, fun z => ⟨by omega, fun v1 e1 => ?_⟩⟩⟩
    · rw [e]
      refine ih (j + 1) m 0 (by omega) ⟨h.1, h.2.1, h.2.2.1, ?_⟩
      rcases h.2.2.2 with w | w
      · omega
      · exact Or.inr ⟨rfl, w.2⟩
    · have e1' : x2 = 1 := by omega
      rw [e1'] at h
      rw [e1]
      refine ⟨_, noX, FW_call H hs hS h p3 q4 q5 (by omega) (fun b hb => ?_), fun y μ' hy => ?_, fun _ _ z => z.elim⟩
      · rcases hb with hb | ⟨hb3, hb⟩
        · exact Sp_up (by omega) hb
        · exact Sp_up (j := j + 1) (by omega) (Or.inr (Or.inr ⟨j, by omega, hb3, hb⟩))
      obtain ⟨x', m', rfl, hx', rfl, h'⟩ := hy
      refine K2_83 H hs hS ⟨by unfold iR; omega, fun v2 e2 => ?_⟩
      have ev : v2 = x' := by
        rw [e2]
        rcases hx' with z | z
        · rw [if_pos z, z]
        · rw [if_neg (by omega), z]
      rw [ev, e]
      refine ih (j + 1) m' x' (by omega) (FW_iff h' fun b => ⟨fun w => ?_, fun w => ?_⟩)
      · rcases w with (w | w | ⟨i, hi, w⟩) | w
        · exact Or.inl w
        · exact Or.inr (Or.inl w)
        · exact Or.inr (Or.inr ⟨i, by omega, w⟩)
        · exact Or.inr (Or.inr ⟨j, by omega, w⟩)
      · rcases w with w | w | ⟨i, hi, w⟩
        · exact Or.inl (Or.inl w)
        · exact Or.inl (Or.inr (Or.inl w))
        · by_cases ei : i = j
          · rw [ei] at w; exact Or.inr w
          · exact Or.inl (Or.inr (Or.inr ⟨i, by omega, w⟩))
theorem upA_le {a b : Nat} (h : a ≤ b) {x : Atm} (hx : upA rs a x) : upA rs b x := by
  obtain ⟨q, q1, q2⟩ := hx
  exact ⟨q, by omega, q2⟩
theorem fw_26 {m0 : PM} {Q : Option Value ⊕ Nat → am_Mem → Prop} (H : CS μ) (hs : s = 22 ∨ s = 42) (hS : am_F μ 65 1 = s) (hq : ∀ m, (∀ c j, ¬ c = 66 → m c j = m0 c j) → Q (.inl (some (.int (zI (plc (Bad2 rs) rs.length))))) (sA μ m l)) : ∀ (f r : Nat) (m : PM) (o2 o3 : Option Value), r + f = rs.length → (∀ c j, ¬ c = 66 → m c j = m0 c j) → KV X s m rs → S66 m → Cns (upA rs r) → T2 X (m 66) (upA rs r) → Wp (d + 2) 2 (26, [some (.ref 65), some (.int (zI (r : Int))), o2, o3], [], sA μ m l) Q := by
  intro f
  induction f with
  | zero =>
    intro r m o2 o3 hf fr hv h66 hC hT
    obtain ⟨n1, n2, n3, n4⟩ := KV_n hv
    refine K2_26 H hs hS ⟨by unfold iR; omega, by unfold iR; omega, fun _ => ?_, fun z => absurd (by omega) z⟩
    have z := hq m fr
    rw [plc_none (fun j hj hb => hb (Cns_mono (fun b hb => upA_le (by omega) hb) hC))] at z
    exact z
  | succ f ih =>
    intro r m o2 o3 hf fr hv h66 hC hT
    obtain ⟨n1, n2, n3, n4⟩ := KV_n hv
    have hr : r < rs.length := by omega
    obtain ⟨a1, a2, a3, a4, a5⟩ := KV_head hv hr
    have hru : rs.getD r ruD ∈ rs := (mem_gD rs ruD _).mpr ⟨r, hr, rfl⟩
    have nm := (hv.2.2.2.2 _ hru).1
    have h9 : ¬ m (s + 6) (m (s + 11) (r : Int)) = 9 := fun z => nm (hv.2.1.2.1 _ _ _ a3 (by rw [z]; exact hv.2.1.2.2.2.2))
    have hFW : FW X s rs r (upA rs r) m0 m 1 := ⟨fr, hv, h66, Or.inl ⟨rfl, hC, hT⟩⟩
    refine K2_26 H hs hS ⟨by unfold iR; omega, by unfold iR; omega, fun z => absurd z (by omega), fun _ => ⟨by omega, _, noX, FW_call (c := (1, (rs.getD r ruD).1)) H hs hS hFW a1 (fun z => absurd (show (1 : Nat) = 3 from z) (by decide)) (fun _ => ⟨a3, h9⟩) (show (1 : Nat) ≤ 3 by decide) (fun b hb => ?_), fun y μ' hy => ?_, fun _ _ z => z.elim⟩⟩
    · rcases hb with hb | hb
      · exact upA_le (by omega) hb
      · exact ⟨r, by omega, Or.inl hb.2⟩
    obtain ⟨x', m', rfl, hx', rfl, h'⟩ := hy
    refine K2_50 H hs hS ?_
    refine fw_53 (m0 := m0) H hs hS hr (fun m2 h2 o2 o3 => ?_) (fun m2 fr2 h2 hb => ?_) (psC (rs.getD r ruD).2).length 0 m' x' (Nat.zero_add _) (FW_iff h' fun b => ⟨fun w => ?_, fun w => ?_⟩)
    · have g : Cns (upA rs (r + 1)) ∧ T2 X (m2 66) (upA rs (r + 1)) := by
        rcases h2.2.2.2 with w | w
        · exact w.2
        · exact absurd w.1 (by decide)
      exact ih (r + 1) m2 _ _ (by omega) h2.1 h2.2.1 h2.2.2.1 g.1 g.2
    · have z := hq m2 fr2
      rw [plc_at hr (fun j hj hb => hb (Cns_mono (fun b hb => upA_le (by omega) hb) hC)) hb] at z
      exact z
    · rcases w with w | w
      · exact Or.inl w
      · exact Or.inr (Or.inl w.2)
    · rcases w with w | w | ⟨i, hi, _⟩
      · exact Or.inl w
      · exact Or.inr ⟨show (1 : Nat) < 3 by decide, w⟩
      · exact absurd hi (Nat.not_lt_zero i)
/-- a row copied into another one, from their beginnings on -/
theorem wA_cp {μ' : am_Mem} {m : PM} {R : Nat} : am_wA (sA μ' m l) R (am_cp (am_A (sA μ' m l) 1) (am_A (sA μ' m l) R) 0 0 8) = sA μ' (fun c j => if c = R ∧ 0 ≤ j ∧ j < 8 then m 1 j else m c j) l := by
  refine Prod.ext rfl (Prod.ext rfl (Prod.ext rfl (Prod.ext ?_ rfl)))
  funext c j
  show am_u1 (fun c (j : Nat) => zI (m c j)) R (am_cp (fun j => zI (m 1 j)) (fun j => zI (m R j)) 0 0 8) c j = zI (if c = R ∧ 0 ≤ (j : Int) ∧ (j : Int) < 8 then m 1 j else m c j)
  unfold am_u1 am_cp
  by_cases hc : c = R
  · rw [if_pos hc]
    show (if 0 ≤ j ∧ j < 0 + 8 then zI (m 1 ((0 + (j - 0) : Nat) : Int)) else zI (m R j)) = _
    by_cases hj : j < 8
    · rw [if_pos (by omega), if_pos (by omega), show 0 + (j - 0) = j by omega]
    · rw [if_neg (by omega), if_neg (by omega), hc]
  · rw [if_neg hc, if_neg (fun z => hc z.1)]
/-- the numbers of terms of the words' atoms -/
def fixV : List Int := [1, 1, 1, 1, 2, 2, 2, 0]
theorem fix_own {m : PM} (hv : KV X s m rs) {x : Int} {w : List Int} (hx : X x w) : (if 0 ≤ x ∧ x < 8 then fixV.getD x.toNat 0 else -1) = ownC w := by
  have q : ∀ k : Nat, k < 10 → (x = (k : Int) ↔ w = wdC.getD k []) := fun k hk => KV_word hv hx hk
  have hx0 := (hv.2.1.1 _ _ hx).1
  by_cases h8 : x < 8
  · rw [if_pos ⟨hx0, h8⟩]
    have hk : x = 0 ∨ x = 1 ∨ x = 2 ∨ x = 3 ∨ x = 4 ∨ x = 5 ∨ x = 6 ∨ x = 7 := by omega
    rcases hk with e | e | e | e | e | e | e | e
    · rw [(q 0 (by decide)).mp e, e]; decide
    · rw [(q 1 (by decide)).mp e, e]; decide
    · rw [(q 2 (by decide)).mp e, e]; decide
    · rw [(q 3 (by decide)).mp e, e]; decide
    · rw [(q 4 (by decide)).mp e, e]; decide
    · rw [(q 5 (by decide)).mp e, e]; decide
    · rw [(q 6 (by decide)).mp e, e]; decide
    · rw [(q 7 (by decide)).mp e, e]; decide
  · rw [if_neg (fun z => h8 z.2)]
    unfold ownC
    have n0 : ¬ w = wdL.getD 2 [] := fun z => by have := (q 0 (by decide)).mpr z; omega
    have n1 : ¬ w = wdL.getD 3 [] := fun z => by have := (q 1 (by decide)).mpr z; omega
    have n2 : ¬ w = wdL.getD 4 [] := fun z => by have := (q 2 (by decide)).mpr z; omega
    have n3 : ¬ w = wdL.getD 7 [] := fun z => by have := (q 3 (by decide)).mpr z; omega
    have n4 : ¬ w = wdL.getD 5 [] := fun z => by have := (q 4 (by decide)).mpr z; omega
    have n5 : ¬ w = wdL.getD 6 [] := fun z => by have := (q 5 (by decide)).mpr z; omega
    have n6 : ¬ w = wdL.getD 8 [] := fun z => by have := (q 6 (by decide)).mpr z; omega
    have n7 : ¬ w = wdL.getD 9 [] := fun z => by have := (q 7 (by decide)).mpr z; omega
    rw [if_neg, if_neg, if_neg n7]
    · rintro (z | z | z)
      · exact n4 z
      · exact n5 z
      · exact n6 z
    · rintro (z | z | z | z)
      · exact n0 z
      · exact n1 z
      · exact n2 z
      · exact n3 z
/-- findWidth -/
theorem k_findWidth {m : PM} (H : CS μ) (hs : s = 22 ∨ s = 42) (hS : am_F μ 65 1 = s) (hv : KV X s m rs) (hk1 : am_kd μ 1 = (8, 8)) (h1 : ∀ j : Nat, j < 8 → m 1 (j : Int) = fixV.getD j 0) : Wp (d + 2) 2 (0, [some (.ref 65), none, none, none], [], sA μ m l) (pI (fun y μ' => ∃ m', y = zI (plc (Bad2 rs) rs.length) ∧ μ' = sA μ m' l ∧ ∀ c j, ¬ c = 66 → m' c j = m c j) noX) := by
  have F2 : am_F (sA μ m l) 65 2 = 66 := cF_65_2 H
  refine b2_0 (P := fun μ' => μ' = sA μ (flM m 66 1024 (-1)) l) (X := noX) (cK_65 H) (by rw [F2]; decide) ?_ (fun μ' hp => ?_) (fun _ _ z => z.elim)
  · rw [F2]
    exact k_fill (n1 := 1024) (cK_66 H) (by decide)
  have hp' : μ' = sA μ (flM m 66 1024 (-1)) l := hp
  rw [hp']
  have F2' : am_F (sA μ (flM m 66 1024 (-1)) l) 65 2 = 66 := cF_65_2 H
  have K1 : am_kd (sA μ (flM m 66 1024 (-1)) l) 1 = (8, 8) := hk1
  have K66 : am_kd (sA μ (flM m 66 1024 (-1)) l) 66 = (2, 1024) := cK_66 H
  refine b2_8 (cK_65 H) (by rw [F2']; decide) (by rw [K1]; decide) (Or.inl ⟨Or.inr (by rw [K1]), by rw [F2', K66]⟩) (by rw [K1]; decide) (by rw [F2', K1, K66]; decide) ?_
  rw [F2', K1]
  rw [show (Int32.ofInt 0).toNatClampNeg = 0 by decide, show (Int32.ofNat (8, 8).2).toNatClampNeg = 8 by decide, wA_cp]
  generalize hm2 : (fun c j => if c = 66 ∧ 0 ≤ j ∧ j < 8 then flM m 66 1024 (-1) 1 j else flM m 66 1024 (-1) c j : PM) = m2
  have k2 : ∀ c j, ¬ c = 66 → m2 c j = m c j := fun c j q => by
    rw [← hm2]
    show (if c = 66 ∧ 0 ≤ j ∧ j < 8 then _ else flM m 66 1024 (-1) c j) = _
    rw [if_neg (fun z => q z.1), flM_o (fun z => q z.1)]
  have hv2 : KV X s m2 rs := KV_cg (fun c j q => k2 c j (by omega)) hv
  have v66 : ∀ x, 0 ≤ x → x < 1024 → m2 66 x = if 0 ≤ x ∧ x < 8 then fixV.getD x.toNat 0 else -1 := by
    intro x x0 x1
    rw [← hm2]
    show (if 66 = 66 ∧ 0 ≤ x ∧ x < 8 then flM m 66 1024 (-1) 1 x else flM m 66 1024 (-1) 66 x) = _
    by_cases c : x < 8
    · rw [if_pos ⟨rfl, x0, c⟩, if_pos ⟨x0, c⟩, flM_o (fun z => absurd z.1 (by decide))]
      have z := h1 x.toNat (by omega)
      rw [show ((x.toNat : Nat) : Int) = x by omega] at z
      exact z
    · rw [if_neg (fun z => c z.2.2), if_neg (fun z => c z.2), flM_i ⟨x0, x1⟩]
  have hnu : ∀ b, ¬ upA rs 0 b := fun b ⟨q, q1, _⟩ => absurd q1 (Nat.not_lt_zero q)
  refine fw_26 (m0 := m) (X := X) H hs hS (fun m' fr => ⟨m', rfl, rfl, fr⟩) rs.length 0 m2 none none (Nat.zero_add _) k2 hv2 (fun x x0 x1 => ?_) (fun b hb => absurd hb (hnu b)) (fun x w hx => ?_)
  · rw [v66 x x0 x1]
    by_cases c : 0 ≤ x ∧ x < 8
    · rw [if_pos c]
      have hk : x = 0 ∨ x = 1 ∨ x = 2 ∨ x = 3 ∨ x = 4 ∨ x = 5 ∨ x = 6 ∨ x = 7 := by omega
      rcases hk with e | e | e | e | e | e | e | e <;> (rw [e]; decide)
    · rw [if_neg c]
      decide
  · have b1 := hv.2.1.1 _ _ hx
    have b2 := hv.2.2.1.1 _ _ hx
    have e1 := v66 x b1.1 b2
    have e2 := fix_own hv hx
    refine ⟨fun _ => by rw [e1, e2], fun b hb => absurd hb (hnu b), fun z _ => ?_⟩
    rw [e1, e2]
    have ho := oc_R2 w
    omega
end CWD
