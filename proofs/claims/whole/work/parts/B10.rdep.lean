/-! ===== the reference's depend ===== -/
/-- how many of the first k are 0 -/
def cnt0 (row : Int → Int) : Nat → Nat
  | 0 => 0
  | k + 1 => cnt0 row k + (if row (k : Int) = 0 then 1 else 0)
theorem cnt0_cg {row row' : Int → Int} : ∀ k : Nat, (∀ j : Nat, j < k → row' j = row j) → cnt0 row' k = cnt0 row k := by
  intro k
  induction k with
  | zero => intro _; rfl
  | succ k ih =>
    intro h
    unfold cnt0
    rw [ih (fun j hj => h j (by omega)), h k (by omega)]
theorem cnt0_up {row row' : Int → Int} {y : Nat} (h0 : row y = 0) (h1 : ¬ row' y = 0) (ho : ∀ j : Nat, ¬ j = y → row' j = row j) : ∀ k : Nat, y < k → cnt0 row' k + 1 = cnt0 row k := by
  intro k
  induction k with
  | zero => intro h; exact absurd h (Nat.not_lt_zero y)
  | succ k ih =>
    intro h
    unfold cnt0
    by_cases c : y = k
    · rw [← c, if_pos h0, if_neg h1, cnt0_cg y (fun j hj => ho j (by omega))]
    · rw [ho k (fun z => c z.symm)]
      have := ih (by omega)
      omega
/-- the name's number is marked -/
def Mk (m : PM) (w : List Int) : Prop := ∃ y, nX m y w ∧ ¬ m 147 y = 0
theorem Mk_i {m : PM} {y : Int} {w : List Int} (hD : NmD m) (h : nX m y w) : Mk m w ↔ ¬ m 147 y = 0 := by
  constructor
  · rintro ⟨z, h1, h2⟩
    rw [nX_in2 hD h h1]
    exact h2
  · intro q
    exact ⟨y, h, q⟩
theorem Dep_tail {rs : List Rul} {x y z : List Int} (h : x = y ∨ Dep rs x y) (e : Edg rs y z) : Dep rs x z := by
  rcases h with h | h
  · rw [h]; exact Relation.TransGen.single e
  · exact Relation.TransGen.tail h e
theorem Edg_at {rs : List Rul} {r j : Nat} (hr : r < rs.length) (hj : j < (rs.getD r ruD).2.length) (h3 : ((rs.getD r ruD).2.getD j cnD).1 < 3) : Edg rs (rs.getD r ruD).1.1 ((rs.getD r ruD).2.getD j cnD).2.1 :=
  ⟨_, (mem_gD rs ruD _).mpr ⟨r, hr, rfl⟩, rfl, _, (mem_gD _ cnD _).mpr ⟨j, hj, rfl⟩, h3, rfl⟩
section RDP
variable {d : Nat} {μ : am_Mem} {l : PM}
/-- marks are 0 or 1, and only of what the relation depends on -/
def DI (rs : List Rul) (w0 : List Int) (m0 m : PM) : Prop := (∀ c j, ¬ c = 147 → m c j = m0 c j) ∧ RV m rs ∧ (∀ y, 0 ≤ y → y < m 125 9 → m 147 y = 0 ∨ m 147 y = 1) ∧ ∀ w, Mk m w → Dep rs w0 w
/-- all that a rule's relation leads to is marked -/
def Cl (rs : List Rul) (w0 : List Int) (m : PM) (r : Nat) : Prop := ((rs.getD r ruD).1.1 = w0 ∨ Mk m (rs.getD r ruD).1.1) → ∀ i, i < (rs.getD r ruD).2.length → ((rs.getD r ruD).2.getD i cnD).1 < 3 → Mk m ((rs.getD r ruD).2.getD i cnD).2.1
theorem dp_84 (H : RS μ) {m0 : PM} {rs : List Rul} {w0 : List Int} {x1 : Int} {r c0 : Nat} {x4 : Int} {Q : Option Value ⊕ Nat → am_Mem → Prop} (hr : r < rs.length) (h4 : x4 = 0 ∨ x4 = 1) (hs : x4 = 1 → w0 = (rs.getD r ruD).1.1 ∨ Dep rs w0 (rs.getD r ruD).1.1) (hq : ∀ m x2, DI rs w0 m0 m → (x2 = 0 ∨ x2 = 1) → (cnt0 (m 147) (m 125 9).toNat : Int) + x2 ≤ c0 → (x2 = 0 → ∀ q, q < r + 1 → Cl rs w0 m q) → ∀ o4 o5 o6 : Option Value, Wp (d + 1) 190 (33, [some (.ref 125), some (.int (zI x1)), some (.int (zI x2)), some (.int (zI ((r : Int) + 1))), o4, o5, o6], [], sA μ m l) Q) : ∀ (f j : Nat) (m : PM) (x2 : Int) (o6 : Option Value), j + f = (rs.getD r ruD).2.length → DI rs w0 m0 m → (x2 = 0 ∨ x2 = 1) → (cnt0 (m 147) (m 125 9).toNat : Int) + x2 ≤ c0 → (x2 = 0 → ∀ q, q < r → Cl rs w0 m q) → (x2 = 0 → x4 = 0 → ¬ ((rs.getD r ruD).1.1 = w0 ∨ Mk m (rs.getD r ruD).1.1)) → (x2 = 0 → ∀ i, i < j → ((rs.getD r ruD).2.getD i cnD).1 < 3 → Mk m ((rs.getD r ruD).2.getD i cnD).2.1) → Wp (d + 1) 190 (84, [some (.ref 125), some (.int (zI x1)), some (.int (zI x2)), some (.int (zI (r : Int))), some (.int (zI x4)), some (.int (zI (m 132 r + (j : Int)))), o6], [], sA μ m l) Q := by
  intro f
  induction f with
  | zero =>
    intro j m x2 o6 hf hI h2 hc hcl hno hm
    obtain ⟨⟨a1, a2, a3⟩, ⟨b1, b2, b3⟩, c⟩ := RV_rule hI.2.1 hr
    obtain ⟨n1, n2, n3, n4, n5⟩ := RV_n hI.2.1
    refine R190_84 H ⟨by omega, by unfold iR; omega, by unfold iR; omega, fun _ => hq m x2 hI h2 hc (fun z q hq' => ?_) _ _ _, fun z => absurd (by omega) z⟩
    by_cases cq : q = r
    · rw [cq]
      intro _ i hi h3
      exact hm z i (by omega) h3
    · exact hcl z q (by omega)
  | succ f ih =>
    intro j m x2 o6 hf hI h2 hc hcl hno hm
    obtain ⟨⟨a1, a2, a3⟩, ⟨b1, b2, b3⟩, c⟩ := RV_rule hI.2.1 hr
    obtain ⟨n1, n2, n3, n4, n5⟩ := RV_n hI.2.1
    obtain ⟨k1, k2, k3, k4, k5, k6, k7, k8, k9⟩ := RV_cond hI.2.1 hr (show j < _ by omega)
    have hs3 : ((rs.getD r ruD).2.getD j cnD).1 ≤ 3 := by
      rcases k1.2 with q | q | q
      · omega
      · omega
      · have := q.1; omega
    have e : m 132 r + (j : Int) + 1 = m 132 r + ((j + 1 : Nat) : Int) := by omega
    refine R190_84 H ⟨by omega, by unfold iR; omega, by unfold iR; omega, fun z => absurd z (by omega), fun _ => ⟨by rcases h4 with z | z <;> rw [z] <;> decide, fun z4 => ?_, fun z4 => ⟨by omega, by omega, by rw [k2]; unfold iR; omega, fun z => ?_, fun z => ?_⟩⟩⟩
    · refine hq m x2 hI h2 hc (fun z q hq' => ?_) _ _ _
      by_cases cq : q = r
      · rw [cq]
        intro w
        exact absurd w (hno z z4)
      · exact hcl z q (by omega)
    · rw [e]
      refine ih (j + 1) m x2 _ (by omega) hI h2 hc hcl hno (fun y i hi h3 => ?_)
      by_cases ci : i = j
      · rw [ci] at h3; omega
      · exact hm y i (by omega) h3
    · have h3 : ((rs.getD r ruD).2.getD j cnD).1 < 3 := by omega
      have hx := k6 h3
      have x0 := hx.1
      have xn := hx.2.1
      have hb := hI.2.2.1 _ x0 xn
      refine ⟨by omega, by rcases hb with z | z <;> rw [z] <;> decide, fun z => ?_, fun z m1 e1 => ?_⟩
      · rw [e]
        refine ih (j + 1) m x2 _ (by omega) hI h2 hc hcl hno (fun y i hi h3 => ?_)
        by_cases ci : i = j
        · rw [ci]
          exact (Mk_i hI.2.1.2.2.1 hx).mpr z
        · exact hm y i (by omega) h3
      · have z0 : m 147 (m 135 (m 134 (m 132 r + (j : Int)))) = 0 := Decidable.byContradiction z
        have k : ∀ c i, ¬ c = 147 → m1 c i = m c i := fun c i q => by rw [e1]; exact up_c q
        have kr : ∀ y, ¬ y = m 135 (m 134 (m 132 r + (j : Int))) → m1 147 y = m 147 y := fun y q => by rw [e1]; exact up_i q
        have ks : m1 147 (m 135 (m 134 (m 132 r + (j : Int)))) = 1 := by rw [e1, up_s]
        have hv1 : RV m1 rs := RV_cg (fun c i q => k c i (by omega)) hI.2.1
        have e9 : m1 125 9 = m 125 9 := k _ _ (by decide)
        have hN : ∀ y w, nX m1 y w ↔ nX m y w := fun y w => ⟨fun q => nX_cg (k _ _ (by decide)).symm (fun i => (k _ _ (by decide)).symm) (fun i => (k _ _ (by decide)).symm) q, fun q => nX_cg (k _ _ (by decide)) (fun i => k _ _ (by decide)) (fun i => k _ _ (by decide)) q⟩
        have h41 : x4 = 1 := by omega
        have hI1 : DI rs w0 m0 m1 := by
          refine ⟨fun c i q => by rw [k c i q]; exact hI.1 c i q, hv1, fun y y0 y1 => ?_, fun w hw => ?_⟩
          · by_cases cy : y = m 135 (m 134 (m 132 r + (j : Int)))
            · rw [cy, ks]; exact Or.inr rfl
            · rw [kr y cy]; exact hI.2.2.1 y y0 (by omega)
          · obtain ⟨y, y1, y2⟩ := hw
            have y1' := (hN y w).mp y1
            by_cases cy : y = m 135 (m 134 (m 132 r + (j : Int)))
            · rw [cy] at y1'
              rw [nX_fun y1' hx]
              exact Dep_tail (hs h41) (Edg_at hr (by omega) h3)
            · rw [kr y cy] at y2
              exact hI.2.2.2 w ⟨y, y1', y2⟩
        have hcn : cnt0 (m1 147) (m1 125 9).toNat + 1 = cnt0 (m 147) (m 125 9).toNat := by
          rw [e9]
          have ex : ((m 135 (m 134 (m 132 r + (j : Int)))).toNat : Int) = m 135 (m 134 (m 132 r + (j : Int))) := by omega
          exact cnt0_up (y := (m 135 (m 134 (m 132 r + (j : Int)))).toNat) (by rw [ex]; exact z0) (by rw [ex, ks]; decide) (fun i hi => kr i (by omega)) _ (by omega)
        rw [e, show m 132 r = m1 132 r from (k _ _ (by decide)).symm]
        exact ih (j + 1) m1 1 _ (by omega) hI1 (Or.inr rfl) (by omega) (fun q => absurd q (by decide)) (fun q => absurd q (by decide)) (fun q => absurd q (by decide))
theorem dp_33 (H : RS μ) {m0 : PM} {rs : List Rul} {w0 : List Int} {x1 : Int} {c0 : Nat} {Q : Option Value ⊕ Nat → am_Mem → Prop} (hx1 : iR x1) (hw : ∀ m, DI rs w0 m0 m → nX m x1 w0) (hq : ∀ m x2, DI rs w0 m0 m → (x2 = 0 ∨ x2 = 1) → (cnt0 (m 147) (m 125 9).toNat : Int) + x2 ≤ c0 → (x2 = 0 → ∀ q, q < rs.length → Cl rs w0 m q) → ∀ o3 o4 o5 o6 : Option Value, Wp (d + 1) 190 (25, [some (.ref 125), some (.int (zI x1)), some (.int (zI x2)), o3, o4, o5, o6], [], sA μ m l) Q) : ∀ (f r : Nat) (m : PM) (x2 : Int) (o4 o5 o6 : Option Value), r + f = rs.length → DI rs w0 m0 m → (x2 = 0 ∨ x2 = 1) → (cnt0 (m 147) (m 125 9).toNat : Int) + x2 ≤ c0 → (x2 = 0 → ∀ q, q < r → Cl rs w0 m q) → Wp (d + 1) 190 (33, [some (.ref 125), some (.int (zI x1)), some (.int (zI x2)), some (.int (zI (r : Int))), o4, o5, o6], [], sA μ m l) Q := by
  intro f
  induction f with
  | zero =>
    intro r m x2 o4 o5 o6 hf hI h2 hc hcl
    obtain ⟨n1, n2, n3, n4, n5⟩ := RV_n hI.2.1
    exact R190_33 H ⟨by unfold iR; omega, by unfold iR; omega, fun _ => hq m x2 hI h2 hc (fun z q hq' => hcl z q (by omega)) _ _ _ _, fun z => absurd (by omega) z⟩
  | succ f ih =>
    intro r m x2 o4 o5 o6 hf hI h2 hc hcl
    obtain ⟨n1, n2, n3, n4, n5⟩ := RV_n hI.2.1
    have hr : r < rs.length := by omega
    obtain ⟨k1, k2, k3, k4, k5, k6, k7, k8⟩ := RV_head hI.2.1 hr
    have hb := hI.2.2.1 _ k3.1 k3.2.1
    have hx := hw m hI
    have hD := hI.2.1.2.2.1
    have i1 : m 135 (m 131 (r : Int)) = x1 ↔ (rs.getD r ruD).1.1 = w0 := nX_inj hD k3 hx
    have i2 := Mk_i hD k3
    refine R190_33 H ⟨by unfold iR; omega, by unfold iR; omega, fun z => absurd z (by omega), fun _ => ⟨by omega, by omega, k4, hx1, fun v1 e1 => ⟨⟨fun _ => trivial, fun _ => ⟨by omega, by omega, by omega, by rcases hb with z | z <;> rw [z] <;> decide, trivial⟩⟩, fun v2 e2 => ⟨by omega, ?_⟩⟩⟩⟩
    have ev : (v2 = 0 ∨ v2 = 1) ∧ (v2 = 1 → (rs.getD r ruD).1.1 = w0 ∨ Mk m (rs.getD r ruD).1.1) ∧ (v2 = 0 → ¬ ((rs.getD r ruD).1.1 = w0 ∨ Mk m (rs.getD r ruD).1.1)) := by
      rw [e2, e1]
      by_cases c1 : m 135 (m 131 (r : Int)) = x1
      · rw [if_pos (by rw [bP_1 c1]; decide)]
        exact ⟨Or.inr rfl, fun _ => Or.inl (i1.mp c1), fun z => absurd z (by decide)⟩
      · rw [if_neg (by rw [bP_0 c1]; decide)]
        by_cases c2 : m 147 (m 135 (m 131 (r : Int))) = 0
        · rw [if_pos c2]
          refine ⟨Or.inl rfl, fun z => absurd z (by decide), fun _ w => ?_⟩
          rcases w with w | w
          · exact c1 (i1.mpr w)
          · exact i2.mp w c2
        · rw [if_neg c2]
          exact ⟨Or.inr rfl, fun _ => Or.inr (i2.mpr c2), fun z => absurd z (by decide)⟩
    rw [show m 132 (r : Int) = m 132 r + ((0 : Nat) : Int) by omega]
    refine dp_84 H hr ev.1 (fun z => ?_) (fun m' x2' a1 a2 a3 a4 o4 o5 o6 => ?_) (rs.getD r ruD).2.length 0 m x2 _ (Nat.zero_add _) hI h2 hc hcl (fun _ z => ev.2.2 z) (fun _ i hi => absurd hi (Nat.not_lt_zero i))
    · rcases ev.2.1 z with w | w
      · exact Or.inl w.symm
      · exact Or.inr (hI.2.2.2 _ w)
    · exact ih (r + 1) m' x2' _ _ _ (by omega) a1 a2 a3 a4
theorem Cl_all {rs : List Rul} {w0 w : List Int} {m : PM} (hc : ∀ q, q < rs.length → Cl rs w0 m q) (h : Dep rs w0 w) : Mk m w := by
  have key : ∀ {a b : List Int}, (a = w0 ∨ Mk m a) → Edg rs a b → Mk m b := by
    intro a b ha hb
    obtain ⟨ru, hru, e1, c, hcm, h3, e2⟩ := hb
    obtain ⟨r, hr, er⟩ := (mem_gD rs ruD ru).mp hru
    rw [← er] at e1 hcm
    obtain ⟨i, hi, ei⟩ := (mem_gD _ cnD c).mp hcm
    have z := hc r hr (by rw [e1]; exact ha) i hi (by rw [ei]; exact h3)
    rw [ei, e2] at z
    exact z
  induction h with
  | single e => exact key (Or.inl rfl) e
  | tail _ e ih => exact key (Or.inr ih) e
/-- what depend leaves -/
def DpE (rs : List Rul) (w0 : List Int) (m0 m : PM) : Prop := (∀ c j, ¬ c = 147 → m c j = m0 c j) ∧ RV m rs ∧ (∀ y, 0 ≤ y → y < m 125 9 → m 147 y = 0 ∨ m 147 y = 1) ∧ ∀ y w, nX m y w → (¬ m 147 y = 0 ↔ Dep rs w0 w)
theorem dp_25 (H : RS μ) {m0 : PM} {rs : List Rul} {w0 : List Int} {x1 : Int} {Q : Option Value ⊕ Nat → am_Mem → Prop} (hx1 : iR x1) (hw : ∀ m, DI rs w0 m0 m → nX m x1 w0) (hq : ∀ m, DpE rs w0 m0 m → Q (.inl none) (sA μ m l)) : ∀ (F : Nat) (m : PM) (x2 : Int) (o3 o4 o5 o6 : Option Value), DI rs w0 m0 m → (x2 = 0 ∨ x2 = 1) → (x2 = 0 → ∀ q, q < rs.length → Cl rs w0 m q) → (x2 = 1 → cnt0 (m 147) (m 125 9).toNat < F) → Wp (d + 1) 190 (25, [some (.ref 125), some (.int (zI x1)), some (.int (zI x2)), o3, o4, o5, o6], [], sA μ m l) Q := by
  have done : ∀ (m : PM), DI rs w0 m0 m → (∀ q, q < rs.length → Cl rs w0 m q) → DpE rs w0 m0 m := by
    intro m hI hc
    refine ⟨hI.1, hI.2.1, hI.2.2.1, fun y w h => ?_⟩
    rw [← Mk_i hI.2.1.2.2.1 h]
    exact ⟨hI.2.2.2 w, Cl_all hc⟩
  intro F
  induction F with
  | zero =>
    intro m x2 o3 o4 o5 o6 hI h2 hc hF
    have e0 : x2 = 0 := by
      rcases h2 with z | z
      · exact z
      · exact absurd (hF z) (Nat.not_lt_zero _)
    exact R190_25 H ⟨by rw [e0]; decide, fun _ => hq m (done m hI (hc e0)), fun z => absurd e0 z⟩
  | succ F ih =>
    intro m x2 o3 o4 o5 o6 hI h2 hc hF
    refine R190_25 H ⟨by rcases h2 with z | z <;> rw [z] <;> decide, fun e0 => hq m (done m hI (hc e0)), fun z => ?_⟩
    have e1 : x2 = 1 := by omega
    have hF' := hF e1
    exact dp_33 (c0 := cnt0 (m 147) (m 125 9).toNat) H hx1 hw (fun m' x2' a1 a2 a3 a4 o3 o4 o5 o6 => ih m' x2' _ _ _ _ a1 a2 a4 (fun z => by omega)) rs.length 0 m 0 _ _ _ (Nat.zero_add _) hI (Or.inl rfl) (by omega) (fun _ q hq' => absurd hq' (Nat.not_lt_zero q))
theorem dp_2 (H : RS μ) {m0 : PM} {rs : List Rul} {w0 : List Int} {x1 : Int} {Q : Option Value ⊕ Nat → am_Mem → Prop} (hx1 : iR x1) (hw : ∀ m, DI rs w0 m0 m → nX m x1 w0) (hq : ∀ m, DpE rs w0 m0 m → Q (.inl none) (sA μ m l)) : ∀ (f : Nat) (k : Int) (m : PM), 0 ≤ k → k + f = m 125 9 → (∀ c j, ¬ c = 147 → m c j = m0 c j) → RV m rs → (∀ y, 0 ≤ y → y < k → m 147 y = 0) → Wp (d + 1) 190 (2, [some (.ref 125), some (.int (zI x1)), some (.int (zI k)), none, none, none, none], [], sA μ m l) Q := by
  intro f
  induction f with
  | zero =>
    intro k m hk hf fr hv h0
    obtain ⟨n1, n2, n3, n4, n5⟩ := RV_n hv
    refine R190_2 H ⟨by unfold iR; omega, by unfold iR; omega, fun _ => ?_, fun z => absurd (by omega) z⟩
    refine dp_25 H hx1 hw hq (cnt0 (m 147) (m 125 9).toNat + 1) m 1 _ _ _ _ ⟨fr, hv, fun y y0 y1 => Or.inl (h0 y y0 (by omega)), fun w hm => ?_⟩ (Or.inr rfl) (fun z => absurd z (by decide)) (fun _ => Nat.lt_succ_self _)
    obtain ⟨y, y1, y2⟩ := hm
    exact absurd (h0 y y1.1 (by have := y1.2.1; omega)) y2
  | succ f ih =>
    intro k m hk hf fr hv h0
    obtain ⟨n1, n2, n3, n4, n5⟩ := RV_n hv
    refine R190_2 H ⟨by unfold iR; omega, by unfold iR; omega, fun z => absurd z (by omega), fun _ => ⟨by omega, fun m1 e1 => ?_⟩⟩
    have k1 : ∀ c i, ¬ c = 147 → m1 c i = m c i := fun c i q => by rw [e1]; exact up_c q
    refine ih (k + 1) m1 (by omega) (by rw [k1 _ _ (by decide)]; omega) (fun c j q => by rw [k1 c j q]; exact fr c j q) (RV_cg (fun c i q => k1 c i (by omega)) hv) (fun y y0 y1 => ?_)
    by_cases c : y = k
    · rw [c, e1, up_s]
    · rw [e1, up_i c]; exact h0 y y0 (by omega)
theorem c_depend (H : RS μ) {m : PM} {rs : List Rul} {w0 : List Int} {x1 : Int} (hv : RV m rs) (hx : nX m x1 w0) : Wp (d + 1) 190 (0, [some (.ref 125), some (.int (zI x1)), none, none, none, none, none], [], sA μ m l) (pV (fun μ' => ∃ m', μ' = sA μ m' l ∧ DpE rs w0 m m') noX) := by
  obtain ⟨n1, n2, n3, n4, n5⟩ := RV_n hv
  have := hx.1
  have := hx.2.1
  refine R190_0 H ?_
  exact dp_2 H (by unfold iR; omega) (fun m' hI => nX_cg (hI.1 _ _ (by decide)) (fun i => hI.1 _ _ (by decide)) (fun i => hI.1 _ _ (by decide)) hx) (fun m' hE => ⟨m', rfl, hE⟩) (m 125 9).toNat 0 m (Int.le_refl _) (by omega) (fun _ _ _ => rfl) hv (fun y y0 y1 => absurd y1 (by omega))
end RDP
