/-! ===== the reference's write, whole ===== -/
section RW3
variable {d : Nat} {μ : am_Mem} {l : PM} {x1 : Int}
theorem wr_term (H : RS μ) : ∀ (f u : Nat) (cs : List Cd) (h : Nat) (m : PM) (L : List Int) (Q : Option Value ⊕ Nat → am_Mem → Prop), TgR f m u cs → u < 130000 → NmW m → m 125 9 ≤ 1010 → RwL m L → L.length + (tx cs).length ≤ 2999 → m 166 (h : Int) = (u : Int) → (h : Int) + 9 * (f : Int) ≤ 1080 → (∀ (m' : PM) (o3 o4 : Option Value), RwL m' (L ++ tx cs) → (∀ c j, ¬ FWr h L c j → m' c j = m c j) → Wp d 208 (14, [some (.ref 125), some (.int (zI x1)), some (.int (zI (h : Int))), o3, o4], [], sA μ m' l) Q) → ∀ o3 o4 : Option Value, Wp d 208 (14, [some (.ref 125), some (.int (zI x1)), some (.int (zI ((h : Int) + 1))), o3, o4], [], sA μ m l) Q := by
  intro f
  induction f with
  | zero => intro u cs h m L Q hg; exact absurd hg (fun z => z)
  | succ f ih =>
    intro u cs h m L Q hg hu hW h9 hr hl e166 hh hq o3 o4
    obtain ⟨w, ps, rfl, hn, hx, h150, hp⟩ := id hg
    obtain ⟨s1, s2, s3⟩ := nX_sg hW hx
    have e0 : (h : Int) + 1 - 1 = (h : Int) := by omega
    by_cases n0 : ps.length = 0
    · have ep : ps = [] := List.eq_nil_of_length_eq_zero n0
      subst ep
      have etx : tx ((([] : List (List Cd)).length, w) :: ([] : List (List Cd)).flatten) = w := tx_0 w
      rw [etx] at hl hq
      have z0 : m 150 (u : Int) = 0 := h150
      refine R208_14 H ⟨⟨by omega, by omega⟩, fun y => by omega, fun _ => ?_⟩
      rw [e0, e166]
      refine ⟨⟨by omega, by omega⟩, ⟨by omega, by omega⟩, fun _ => ⟨⟨by omega, by omega⟩, by rw [z0]; exact ⟨by decide, by decide⟩, fun _ => ?_, fun y => absurd (by rw [z0]; decide) y⟩, fun y => by omega⟩
      rintro v1 e1
      refine R208_86 H ⟨by rw [e1, z0]; exact ⟨by decide, by decide⟩, fun _ => ⟨⟨by omega, by omega⟩, by rw [z0]; exact ⟨by decide, by decide⟩, fun _ => ?_, fun y => absurd (by rw [z0]; decide) y⟩, fun y => absurd (by rw [e1, z0]; decide) y⟩
      exact wr_161 (m0 := m) (w := w) (L0 := L) (h := (h : Int)) (t := u) H hu hx h9 s1 s2 s3 (by omega) (fun m' o4 y1 y2 => hq m' _ _ y1 (fun c j z => y2 c j (by omega))) w.length 0 m (by omega) (by rw [List.take_zero, List.append_nil]; exact hr) (fun _ _ _ => rfl)
    · have hgp : ∀ p, p ∈ ps → wfS f p ∧ gnd p := by
        intro p hp'
        obtain ⟨k, hk, e⟩ := mem_gD2 hp'
        obtain ⟨v, _, _, e3⟩ := hp k hk
        rw [e] at e3
        exact ⟨TgR_wf f v p e3, TgR_gnd f v p e3⟩
      have etx := tx_n (w := w) (by omega) hgp
      have ltx : (tx ((ps.length, w) :: ps.flatten)).length = w.length + (txP ps).length + 2 := by
        rw [etx, List.length_cons, List.length_append, List.length_append, List.length_singleton]
      rw [ltx] at hl
      refine R208_14 H ⟨⟨by omega, by omega⟩, fun y => by omega, fun _ => ?_⟩
      rw [e0, e166]
      refine ⟨⟨by omega, by omega⟩, ⟨by omega, by omega⟩, fun _ => ⟨⟨by omega, by omega⟩, by rw [h150]; exact ⟨by omega, by omega⟩, fun y => by omega, fun _ => ?_⟩, fun y => by omega⟩
      rintro m2 e2 v3 e3
      rw [h150] at e3
      have k2 : ∀ c j, ¬ (c = 166 ∧ j = (h : Int)) → m2 c j = m c j := fun c j y => by rw [e2]; exact up_o y
      have z := wr_86 (d := d) (l := l) (Q := Q) (x1 := x1) (m0 := m2) (t := u) (n := ps.length) (h := h + 1) H hu hn (by omega) (fun m3 y1 y2 => ?_) ps.length m2 (Nat.le_refl _) (fun _ _ _ => rfl) (fun i z1 z2 => by omega)
      · rw [show ((h + 1 : Nat) : Int) + 2 * ((ps.length : Int) - (ps.length : Int)) = (h : Int) + 1 by omega] at z
        rw [e3]
        exact z
      have k3 : ∀ c j, ¬ (c = 166 ∧ (h : Int) ≤ j) → m3 c j = m c j := fun c j y => by rw [y1 c j (by omega)]; exact k2 c j (by omega)
      have e3150 : m3 150 (u : Int) = (ps.length : Int) := by rw [k3 _ _ (by omega)]; exact h150
      refine R208_86 H ⟨⟨by decide, by decide⟩, fun _ => ⟨⟨by omega, by omega⟩, by rw [e3150]; exact ⟨by omega, by omega⟩, fun y => by omega, fun _ => ⟨by rw [k3 _ _ (by omega), hr.1]; exact ⟨by omega, by omega⟩, ?_⟩⟩, fun y => absurd (by decide) y⟩
      rintro m4 e4
      have hr3 : RwL m3 L := RwL_cg (k3 _ _ (by omega)) (fun i => k3 _ _ (by omega)) hr
      have hr4 : RwL m4 (L ++ [40]) := by rw [e4]; exact RwL_snoc hr3
      have l4 : (L ++ [(40 : Int)]).length = L.length + 1 := by rw [List.length_append, List.length_singleton]
      have k4 : ∀ c j, ¬ ((c = 166 ∧ (h : Int) ≤ j) ∨ (c = 176 ∧ (L.length : Int) ≤ j) ∨ (c = 125 ∧ j = 80)) → m4 c j = m c j := fun c j y => by
        rw [e4, hr3.1, up_o (by omega), up_o (by omega)]
        exact k3 c j (by omega)
      have k43 : ∀ j, m4 166 j = m3 166 j := fun j => by rw [e4, up_c (by decide), up_c (by decide)]
      have e149 : m4 149 (u : Int) = m 149 u := k4 _ _ (by omega)
      have hx4 : nX m4 (m4 149 u) w := by rw [e149]; exact nX_cg (k4 _ _ (by omega)) (fun i => k4 _ _ (by omega)) (fun i => k4 _ _ (by omega)) hx
      refine wr_161 (m0 := m4) (w := w) (L0 := L ++ [40]) (t := u) H hu hx4 (by rw [k4 _ _ (by omega)]; exact h9) (by rw [e149, k4 130 _ (by omega)]; exact s1) s2 (fun i hi => by rw [e149, k4 129 _ (by omega)]; exact s3 i hi) (by rw [l4]; omega) (fun m5 o4 v1 v2 => ?_) w.length 0 m4 (by omega) (by rw [List.take_zero, List.append_nil]; exact hr4) (fun _ _ _ => rfl)
      rw [l4] at v2
      have k5 : ∀ c j, ¬ ((c = 166 ∧ (h : Int) ≤ j) ∨ (c = 176 ∧ (L.length : Int) ≤ j) ∨ (c = 125 ∧ j = 80)) → m5 c j = m c j := fun c j y => by rw [v2 c j (by omega)]; exact k4 c j y
      have k56 : ∀ j, m5 166 j = m3 166 j := fun j => by rw [v2 _ _ (by omega)]; exact k43 j
      have l5 : (L ++ [(40 : Int)] ++ w).length = L.length + 1 + w.length := by rw [List.length_append, l4]
      have z2 := wr_parts (d := d) (l := l) (Q := Q) (x1 := x1) (f := f) (ps := ps) (h := h) (t := u) (mA := m) H hn (by omega) ih (fun m' u' cs' fr hg' => TgR_cg (T := u' + 1) (fr _ _ (by omega)) (fun i => fr _ _ (by omega)) (fun i => fr _ _ (by omega)) (fun t ht => ⟨fr _ _ (by omega), fr _ _ (by omega), fun k hk => fr _ _ (by omega)⟩) f u' cs' (by omega) hg') hW h9 hu hp ps.length 0 m5 (L ++ [40] ++ w) (some (.int (zI (u : Int)))) o4 (by omega) (fun c j y => k5 c j (by omega)) v1 (by rw [l5, List.drop_zero]; omega) (by rw [k56, y1 _ _ (by omega), e2, up_s]) (fun k z1 z2 => ?_) (fun m6 o3 o4 q1 q2 => hq m6 o3 o4 ?_ (fun c j y => ?_))
      · rw [show ((h + 1 : Nat) : Int) + 2 * (ps.length : Int) = (h : Int) + 1 + 2 * (ps.length : Int) by omega]
        exact z2
      · have y := y2 k z2
        rw [show ((h + 1 : Nat) : Int) = (h : Int) + 1 by omega] at y
        rw [k56, k56]
        exact ⟨y.1.trans (k2 _ _ (by omega)), y.2⟩
      · rw [etx]
        rw [List.drop_zero] at q1
        simpa [List.append_assoc] using q1
      · rw [q2 c j (by rw [FWr, l5]; omega)]
        exact k5 c j y
theorem c_write {m : PM} {f t : Nat} {cs : List Cd} (H : RS μ) (hg : TgR f m t cs) (hf : 9 * (f : Int) ≤ 1080) (ht : t < 130000) (hW : NmW m) (h9 : m 125 9 ≤ 1010) (hl : (tx cs).length ≤ 2999) : Wp d 208 (0, [some (.ref 125), some (.int (zI (t : Int))), none, none, none], [], sA μ m l) (pV (fun μ' => ∃ m', μ' = sA μ m' l ∧ RwL m' (tx cs) ∧ (∀ i : Nat, (tx cs).length ≤ i → i < 49 → m' 176 i = 0) ∧ ∀ c j, ¬ WWr c j → m' c j = m c j) noX) := by
  refine R208_0 H ?_
  rintro m1 e1
  have k1 : ∀ c j, ¬ WWr c j → m1 c j = m c j := fun c j y => by rw [e1, up_o (by omega), up_o (by omega)]
  have z := wr_term (d := d) (l := l) (x1 := (t : Int)) H f t cs 0 m1 [] (pV (fun μ' => ∃ m', μ' = sA μ m' l ∧ RwL m' (tx cs) ∧ (∀ i : Nat, (tx cs).length ≤ i → i < 49 → m' 176 i = 0) ∧ ∀ c j, ¬ WWr c j → m' c j = m c j) noX) (TgR_cg (T := t + 1) (k1 _ _ (by omega)) (fun i => k1 _ _ (by omega)) (fun i => k1 _ _ (by omega)) (fun t ht => ⟨k1 _ _ (by omega), k1 _ _ (by omega), fun k hk => k1 _ _ (by omega)⟩) f t cs (by omega) hg) ht (NmW_cg (k1 _ _ (by omega)) (fun i => k1 _ _ (by omega)) (fun i => k1 _ _ (by omega)) hW) (by rw [k1 _ _ (by omega)]; exact h9) ⟨by rw [e1, up_c (by decide), up_s]; rfl, fun i hi => absurd hi (Nat.not_lt_zero i)⟩ (by rw [List.length_nil]; omega) (by rw [e1]; exact up_s _ _ _ _) (by omega) (fun m2 o3 o4 y1 y2 => ?_) none none
  · exact z
  rw [List.nil_append] at y1
  have k2 : ∀ c j, ¬ WWr c j → m2 c j = m c j := fun c j y => (y2 c j (by omega)).trans (k1 c j y)
  have loop : ∀ (r i : Nat) (m' : PM) (o4 : Option Value), (i + r = 49 ∨ (r = 0 ∧ 49 ≤ i)) → (tx cs).length ≤ i → i ≤ 2999 → RwL m' (tx cs) → (∀ k : Nat, (tx cs).length ≤ k → k < i → k < 49 → m' 176 k = 0) → (∀ c j, ¬ WWr c j → m' c j = m c j) → Wp d 208 (227, [some (.ref 125), some (.int (zI (t : Int))), some (.int (zI 0)), some (.int (zI (i : Int))), o4], [], sA μ m' l) (pV (fun μ' => ∃ m', μ' = sA μ m' l ∧ RwL m' (tx cs) ∧ (∀ i : Nat, (tx cs).length ≤ i → i < 49 → m' 176 i = 0) ∧ ∀ c j, ¬ WWr c j → m' c j = m c j) noX) := by
    intro r
    induction r with
    | zero =>
      intro i m' o4 hi g0 gi g1 g2 g3
      exact R208_227 H ⟨⟨by omega, by omega⟩, fun _ => ⟨m', rfl, g1, fun k y1 y2 => g2 k y1 (by omega) y2, g3⟩, fun y => by omega⟩
    | succ r ih =>
      intro i m' o4 hi g0 gi g1 g2 g3
      refine R208_227 H ⟨⟨by omega, by omega⟩, fun y => by omega, fun _ => ⟨⟨by omega, by omega⟩, ?_⟩⟩
      rintro m3 e3
      have z := ih (i + 1) m3 o4 (by omega) (by omega) (by omega) ⟨by rw [e3, up_c (by decide)]; exact g1.1, fun k hk => by rw [e3, up_i (by omega)]; exact g1.2 k hk⟩ (fun k y1 y2 y3 => by
        by_cases y : k = i
        · rw [y, e3, up_s]
        · rw [e3, up_i (by omega)]
          exact g2 k y1 (by omega) y3) (fun c j y => by rw [e3, up_c (by omega)]; exact g3 c j y)
      exact z
  refine R208_14 H ⟨⟨by omega, by omega⟩, fun _ => ?_, fun y => absurd (by decide) y⟩
  rw [y1.1]
  exact loop (49 - (tx cs).length) (tx cs).length m2 _ (by omega) (Nat.le_refl _) hl y1 (fun k y1 y2 => by omega) k2
end RW3
