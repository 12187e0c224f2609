/-! ===== the class's findDependence, findUnlayered ===== -/
section CDP
variable {d : Nat} {μ : am_Mem} {s : Nat} {X : Int → List Int → Prop} {rs : List Rul} {m l : PM} {h : Nat}
theorem k_findDependence (H : CS μ) (hs : s = 22 ∨ s = 42) (hS : am_F μ 65 1 = s) (hv : KV X s m rs) (hR : RLt X rs m l h) : Wp (d + 2) 11 (0, [some (.ref 65)], [], sA μ m l) (pI (fun y μ' => y = zI (ch4 rs) ∧ μ' = sA μ m l) noX) := by
  have hw : ∀ k : Nat, k < 10 → X (k : Int) (wdC.getD k []) := hv.2.2.1.2
  have x1 : X 1 (wdL.getD 3 []) := hw 1 (by decide)
  have x2 : X 2 (wdL.getD 4 []) := hw 2 (by decide)
  have x4 : X 4 (wdL.getD 5 []) := hw 4 (by decide)
  have x5 : X 5 (wdL.getD 6 []) := hw 5 (by decide)
  have x6 : X 6 (wdL.getD 8 []) := hw 6 (by decide)
  have x7 : X 7 (wdL.getD 9 []) := hw 7 (by decide)
  have b2 : ¬ m 67 2 = -1 := by rw [hR.1.2.2.2.2.1.1]; decide
  have b4 : ¬ m 67 4 = -1 := by rw [hR.1.2.2.2.2.1.2]; decide
  have i12 := dp_iff hv hR x1 x2 b2
  have i14 := dp_iff hv hR x1 x4 b4
  have i54 := dp_iff hv hR x5 x4 b4
  have i64 := dp_iff hv hR x6 x4 b4
  have i74 := dp_iff hv hR x7 x4 b4
  unfold ch4
  refine K11_0 H hs hS ⟨GDp_of hv hR x1 x2, fun z => ⟨?_, rfl⟩, fun z => ⟨GDp_of hv hR x1 x4, fun z2 => ⟨GDp_of hv hR x5 x4, fun z3 => ⟨GDp_of hv hR x6 x4, fun z4 => ⟨GDp_of hv hR x7 x4, fun v1 e1 => ⟨?_, rfl⟩⟩, fun z4 => ⟨?_, rfl⟩⟩, fun z3 => ⟨?_, rfl⟩⟩, fun z2 => ⟨?_, rfl⟩⟩⟩
  · have y : dpP m l 1 2 := Classical.byContradiction fun w => z (bP_z.mpr w)
    rw [cif_p (Or.inl (i12.mp y))]
  · have n1 : ¬ dpP m l 1 2 := bP_z.mp (Decidable.byContradiction z)
    have n2 : ¬ dpP m l 1 4 := bP_z.mp z2
    have n3 : ¬ dpP m l 5 4 := bP_z.mp z3
    have n4 : ¬ dpP m l 6 4 := bP_z.mp z4
    rw [cif_n (fun w => by
      rcases w with w | w
      · exact n1 (i12.mpr w)
      · exact n2 (i14.mpr w)), cif_n (fun w => n3 (i54.mpr w)), cif_n (fun w => n4 (i64.mpr w)), e1]
    by_cases c : dpP m l 7 4
    · rw [if_neg (by rw [bP_1 c]; decide), cif_p (i74.mp c)]
    · rw [if_pos (by rw [bP_0 c]), cif_n (fun w => c (i74.mpr w))]
  · have n1 : ¬ dpP m l 1 2 := bP_z.mp (Decidable.byContradiction z)
    have n2 : ¬ dpP m l 1 4 := bP_z.mp z2
    have n3 : ¬ dpP m l 5 4 := bP_z.mp z3
    have y : dpP m l 6 4 := Classical.byContradiction fun w => z4 (bP_z.mpr w)
    rw [cif_n (fun w => by
      rcases w with w | w
      · exact n1 (i12.mpr w)
      · exact n2 (i14.mpr w)), cif_n (fun w => n3 (i54.mpr w)), cif_p (i64.mp y)]
  · have n1 : ¬ dpP m l 1 2 := bP_z.mp (Decidable.byContradiction z)
    have n2 : ¬ dpP m l 1 4 := bP_z.mp z2
    have y : dpP m l 5 4 := Classical.byContradiction fun w => z3 (bP_z.mpr w)
    rw [cif_n (fun w => by
      rcases w with w | w
      · exact n1 (i12.mpr w)
      · exact n2 (i14.mpr w)), cif_p (i54.mp y)]
  · have y : dpP m l 1 4 := Classical.byContradiction fun w => z2 (bP_z.mpr w)
    rw [cif_p (Or.inr (i14.mp y))]
/-- a relation is the head's, or depends on that -/
theorem trn_iff (hv : KV X s m rs) (hR : RLt X rs m l h) {r : Nat} (hr : r < rs.length) {x : Int} {w : List Int} (hx : X x w) : (x = m (s + 6) (m (s + 11) (r : Int)) ∨ dpP m l x (m (s + 6) (m (s + 11) (r : Int)))) ↔ Trn rs (rs.getD r ruD) w := by
  obtain ⟨a1, a2, a3, a4, a5⟩ := KV_head hv hr
  have hb := hR.1.2.2.2.1 _ _ a3 ⟨r, hr, rfl⟩
  refine or_congr ⟨fun z => ?_, fun z => ?_⟩ (dp_iff hv hR hx a3 (by omega))
  · rw [z] at hx
    exact hv.2.1.2.1 _ _ _ hx a3
  · rw [z] at hx
    exact hv.2.1.2.2.1 _ _ _ hx a3
theorem ul_15 {r : Nat} {Q : Option Value ⊕ Nat → am_Mem → Prop} (H : CS μ) (hs : s = 22 ∨ s = 42) (hS : am_F μ 65 1 = s) (hv : KV X s m rs) (hR : RLt X rs m l h) (hr : r < rs.length) (hq : (¬ ∃ i, i < (otC (rs.getD r ruD).2).length ∧ ((otC (rs.getD r ruD).2).getD i cnD).1 = 2 ∧ Trn rs (rs.getD r ruD) ((otC (rs.getD r ruD).2).getD i cnD).2.1) → ∀ o2 o3 : Option Value, Wp (d + 3) 14 (2, [some (.ref 65), some (.int (zI ((r : Int) + 1))), o2, o3], [], sA μ m l) Q) (hb : Bad6 rs r → Q (.inl (some (.int (zI (r : Int))))) (sA μ m l)) : ∀ (f j : Nat) (o3 : Option Value), j + f = (otC (rs.getD r ruD).2).length → (¬ ∃ i, i < j ∧ ((otC (rs.getD r ruD).2).getD i cnD).1 = 2 ∧ Trn rs (rs.getD r ruD) ((otC (rs.getD r ruD).2).getD i cnD).2.1) → Wp (d + 3) 14 (15, [some (.ref 65), some (.int (zI (r : Int))), some (.int (zI (j : Int))), o3], [], sA μ m l) Q := by
  obtain ⟨k1, k2, k3, k4, k5, k6⟩ := KV_rule hv hr
  obtain ⟨a1, a2, a3, a4, a5⟩ := KV_head hv hr
  have e16 := k1.2.2.1.1
  intro f
  induction f with
  | zero =>
    intro j o3 hf hn
    have ej : j = (otC (rs.getD r ruD).2).length := by omega
    rw [ej] at hn
    exact K14_15 H hs hS ⟨by omega, by unfold iR; omega, by unfold iR; omega, fun _ => hq hn _ _, fun z => absurd (by omega) z⟩
  | succ f ih =>
    intro j o3 hf hn
    obtain ⟨p1, p2, p3⟩ := KV_oth hv hr (show j < _ by omega)
    obtain ⟨q1, q2, q3, q4, q5, q6⟩ := KV_cond hv hr p1 p3
    have e : (j : Int) + 1 = ((j + 1 : Nat) : Int) := by omega
    have nxt : ¬ (((otC (rs.getD r ruD).2).getD j cnD).1 = 2 ∧ Trn rs (rs.getD r ruD) ((otC (rs.getD r ruD).2).getD j cnD).2.1) → ¬ ∃ i, i < j + 1 ∧ ((otC (rs.getD r ruD).2).getD i cnD).1 = 2 ∧ Trn rs (rs.getD r ruD) ((otC (rs.getD r ruD).2).getD i cnD).2.1 := by
      rintro hno ⟨i, hi, w⟩
      by_cases c : i = j
      · rw [c] at w; exact hno w
      · exact hn ⟨i, by omega, w⟩
    refine K14_15 H hs hS ⟨by omega, by unfold iR; omega, by unfold iR; omega, fun z => absurd z (by omega), fun _ => ⟨by omega, by omega, fun v1 e1 => ⟨by unfold iR; omega, fun z => ?_, fun z => ⟨by omega, by omega, fun v2 e2 => ?_⟩⟩⟩⟩
    · rw [e]
      refine ih (j + 1) _ (by omega) (nxt fun w => ?_)
      exact (q5 (by omega)).2 (by omega)
    · rw [e1] at z
      have c2 : ((otC (rs.getD r ruD).2).getD j cnD).1 = 2 := by
        rcases q1.2 with y | y | y
        · exact absurd y p2
        · exact y
        · exact absurd (q4 y.1) z
      have hx := (q5 (by omega)).1
      rw [e1, e2]
      refine ⟨GDp_of hv hR hx a3, fun v3 e3 => ?_⟩
      have ti := trn_iff hv hR hr hx
      refine ⟨fun y => ?_, fun y => hb ?_⟩
      · rw [e]
        rw [e3] at y
        exact ih (j + 1) _ (by omega) (nxt fun w => bP_z.mp y (ti.mpr w.2))
      · have yt : Trn rs (rs.getD r ruD) ((otC (rs.getD r ruD).2).getD j cnD).2.1 := ti.mp (Classical.byContradiction fun w => y (by rw [e3]; exact bP_z.mpr w))
        exact ⟨_, p1, c2, yt⟩
theorem ul_2 {Q : Option Value ⊕ Nat → am_Mem → Prop} (H : CS μ) (hs : s = 22 ∨ s = 42) (hS : am_F μ 65 1 = s) (hv : KV X s m rs) (hR : RLt X rs m l h) (hq : Q (.inl (some (.int (zI (plc (Bad6 rs) rs.length))))) (sA μ m l)) : ∀ (f r : Nat) (o2 o3 : Option Value), r + f = rs.length → (∀ j, j < r → ¬ Bad6 rs j) → Wp (d + 3) 14 (2, [some (.ref 65), some (.int (zI (r : Int))), o2, o3], [], sA μ m l) Q := by
  obtain ⟨n1, n2, n3, n4⟩ := KV_n hv
  intro f
  induction f with
  | zero =>
    intro r o2 o3 hf hn
    refine K14_2 H hs hS ⟨by unfold iR; omega, by unfold iR; omega, fun _ => ?_, fun z => absurd (by omega) z⟩
    rw [plc_none (fun j hj => hn j (by omega))] at hq
    exact hq
  | succ f ih =>
    intro r o2 o3 hf hn
    have hr : r < rs.length := by omega
    refine K14_2 H hs hS ⟨by unfold iR; omega, by unfold iR; omega, fun z => absurd z (by omega), fun _ => ?_⟩
    refine ul_15 H hs hS hv hR hr (fun hno o2 o3 => ih (r + 1) _ _ (by omega) (fun j hj => ?_)) (fun hb => ?_) (otC (rs.getD r ruD).2).length 0 _ (Nat.zero_add _) (fun ⟨i, hi, _⟩ => absurd hi (Nat.not_lt_zero i))
    · by_cases c : j = r
      · rw [c]
        rintro ⟨x, hx, x2, xt⟩
        exact hno ((ex_ot (P := fun c => c.1 = 2 ∧ Trn rs (rs.getD r ruD) c.2.1)).mpr ⟨x, hx, by omega, x2, xt⟩)
      · exact hn j (by omega)
    · rw [plc_at hr hn hb] at hq
      exact hq
/-- findUnlayered -/
theorem k_findUnlayered (H : CS μ) (hs : s = 22 ∨ s = 42) (hS : am_F μ 65 1 = s) (hv : KV X s m rs) (hR : RLt X rs m l h) : Wp (d + 3) 14 (0, [some (.ref 65), none, none, none], [], sA μ m l) (pI (fun y μ' => y = zI (plc (Bad6 rs) rs.length) ∧ μ' = sA μ m l) noX) := by
  refine K14_0 H hs hS ?_
  exact ul_2 H hs hS hv hR ⟨rfl, rfl⟩ rs.length 0 none none (Nat.zero_add _) (fun j hj => absurd hj (Nat.not_lt_zero j))
end CDP
