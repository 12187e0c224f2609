/-! ===== the reference's held atoms: hold, noAtoms ===== -/
/-- what holding an atom may write -/
abbrev WHd (c : Nat) (j : Int) : Prop := (154 ≤ c ∧ c ≤ 160) ∨ (c = 125 ∧ (j = 48 ∨ j = 56))
section RA2
variable {d : Nat} {μ : am_Mem} {m l : PM} {Q : Option Value ⊕ Nat → am_Mem → Prop} {x : Int} {c F : Nat} {W : Int → Nat}
theorem HdI_add {m' : PM} {t0 mm : Nat} (hI : HdI W m F) (hF : F < 1000) (hx : 0 ≤ x ∧ x < m 125 9) (hc : c ≤ 4) (hW : W x = c) (hR : ∀ k : Nat, k < c → 0 ≤ m 168 k ∧ m 168 k < 130000) (hm : mm < 4096) (ep : asP x (sl (m 168) 0 c) = (t0 : Int)) (hz : m 157 (((t0 + mm) % 4096 : Nat) : Int) = 0) (hnz : ∀ m', m' < mm → ¬ m 157 (((t0 + m') % 4096 : Nat) : Int) = 0)
    (e9 : m' 125 9 = m 125 9) (e48 : m' 125 48 = (F : Int) + 1) (k154 : ∀ a : Nat, a < F → m' 154 a = m 154 a) (e154 : m' 154 F = x) (k155 : ∀ j, j < 4 * (F : Int) → m' 155 j = m 155 j) (e155 : ∀ k : Nat, k < c → m' 155 (4 * (F : Int) + k) = m 168 k) (e156 : m' 156 F = -1) (f156 : ¬ m 160 x = 0 → m' 156 (m 159 x) = (F : Int)) (k156 : ∀ a : Nat, a < F → (m 160 x = 0 ∨ ¬ (a : Int) = m 159 x) → m' 156 a = m 156 a) (e158 : m 160 x = 0 → m' 158 x = (F : Int)) (k158 : ∀ y, (¬ m 160 x = 0 ∨ ¬ y = x) → m' 158 y = m 158 y) (e159 : m' 159 x = (F : Int)) (k159 : ∀ y, ¬ y = x → m' 159 y = m 159 y) (e160 : m' 160 x = m 160 x + 1) (k160 : ∀ y, ¬ y = x → m' 160 y = m 160 y) (e157 : m' 157 (((t0 + mm) % 4096 : Nat) : Int) = (F : Int) + 1) (k157 : ∀ i, ¬ i = (((t0 + mm) % 4096 : Nat) : Int) → m' 157 i = m 157 i) : HdI W m' (F + 1) ∧ isA m' F x (sl (m 168) 0 c) := by
  obtain ⟨h1, h2, h3, h4, h5, h6⟩ := hI
  have eps : sl (m' 155) (4 * (F : Int)) c = sl (m 168) 0 c := sl_eq.mpr ⟨rfl, fun j hj => by rw [e155 j hj]; congr 1; omega⟩
  have hl := Nat.mod_lt (t0 + mm) (show 0 < 4096 by decide)
  have rr : ∀ f : Nat, f < F → m 154 f = m' 154 f := fun f hf => (k154 f hf).symm
  obtain ⟨g1, g2, g3⟩ := h4 x hx.1 hx.2
  have c0 := (cnF_sp (m 154) x F)
  have ls := lsF_sp (m 154) x F
  refine ⟨⟨by rw [e48]; omega, by omega, fun a ha => ?_, fun y y0 y1 => ?_, fun i hi => ?_, ?_⟩, e154, by rw [sl_len]; exact eps⟩
  · by_cases z : a = F
    · rw [z, e154, e156, hW]
      refine ⟨by omega, hc, fun k hk => by rw [e155 k hk]; exact hR k hk, ?_⟩
      rcases nxF_sp (m' 154) F (F + 1) with ⟨y, _⟩ | ⟨c', _, y1, y2, _⟩
      · exact y.symm
      · omega
    · have ha' : a < F := by omega
      obtain ⟨b1, b2, b3, b4⟩ := h3 a ha'
      have en : nxF (m' 154) a F = nxF (m 154) a F := (nxF_cg F ha' rr).symm
      have e1 : nxF (m' 154) a (F + 1) = if 0 ≤ nxF (m' 154) a F then nxF (m' 154) a F else if a < F ∧ m' 154 F = m' 154 a then (F : Int) else -1 := rfl
      rw [en, e154, k154 a ha'] at e1
      rw [k154 a ha']
      refine ⟨by omega, b2, fun k hk => by rw [k155 _ (by omega)]; exact b3 k hk, ?_⟩
      have nsp := nxF_sp (m 154) a F
      by_cases zc : m 160 x = 0
      · rw [k156 a ha' (Or.inl zc), b4, e1]
        have hne : ¬ x = m 154 a := fun w => c0.mp (by rw [← g1]; exact zc) a ha' w.symm
        rcases nsp with ⟨y, _⟩ | ⟨c', y, _⟩
        · rw [y, if_neg (by omega), if_neg (fun w => hne w.2)]
        · rw [if_pos (by omega)]
      · have hpos : 0 < cnF (m 154) x F := by
          have := (cnF_r (m 154) x F).1
          omega
        have e159' := g3 hpos
        rcases ls with ⟨y, yn⟩ | ⟨cl, y, y2, y3, y4⟩
        · exact absurd (c0.mpr yn) (by omega)
        · by_cases zl : a = cl
          · have hno : nxF (m 154) a F = -1 := by
              rcases nsp with ⟨w, _⟩ | ⟨c', _, w2, w3, w4, _⟩
              · exact w
              · exact absurd (by rw [w4, zl]; exact y3) (y4 c' (by omega) w3)
            have ea : (a : Int) = m 159 x := by rw [e159', y, zl]
            rw [ea, f156 zc, e1, hno, if_neg (by omega), if_pos ⟨ha', by rw [zl, y3]⟩]
          · rw [k156 a ha' (Or.inr (by rw [e159', y]; omega)), b4, e1]
            rcases nsp with ⟨w, wn⟩ | ⟨c', w, _⟩
            · have hne : ¬ x = m 154 a := fun v => by
                by_cases u : a < cl
                · exact wn cl u y2 (by rw [y3, v])
                · exact y4 a (by omega) ha' v.symm
              rw [w, if_neg (by omega), if_neg (fun v => hne v.2)]
            · rw [if_pos (by omega)]
  · rw [e9] at y1
    obtain ⟨a1, a2, a3⟩ := h4 y y0 y1
    have b1 : cnF (m' 154) y (F + 1) = cnF (m' 154) y F + (if m' 154 F = y then 1 else 0) := rfl
    have b2 : fsF (m' 154) y (F + 1) = if 0 ≤ fsF (m' 154) y F then fsF (m' 154) y F else if m' 154 F = y then (F : Int) else -1 := rfl
    have b3 : lsF (m' 154) y (F + 1) = if m' 154 F = y then (F : Int) else lsF (m' 154) y F := rfl
    rw [← cnF_cg F rr, e154] at b1
    rw [← fsF_cg F rr, e154] at b2
    rw [← lsF_cg F rr, e154] at b3
    rw [b1, b2, b3]
    have fsp := fsF_sp (m 154) y F
    by_cases z : y = x
    · rw [z] at a1 a2 a3 fsp ⊢
      rw [if_pos rfl, if_pos rfl, if_pos rfl, e160, e159, a1]
      refine ⟨rfl, ?_, fun _ => rfl⟩
      by_cases zc : m 160 x = 0
      · rw [e158 zc]
        rcases fsp with ⟨w, _⟩ | ⟨c', w, w2, w3, _⟩
        · rw [w, if_neg (by omega)]
        · exact absurd w3 (c0.mp (by rw [← g1]; exact zc) c' w2)
      · rw [k158 x (Or.inl zc), a2]
        rcases fsp with ⟨_, w⟩ | ⟨c', w, _⟩
        · exact absurd (by rw [g1]; exact c0.mpr w) zc
        · rw [if_pos (by omega)]
    · have hne : ¬ x = y := fun w => z w.symm
      rw [if_neg hne, if_neg hne, if_neg hne, k160 y z, k159 y z, k158 y (Or.inr z), a1, a2, Int.add_zero]
      refine ⟨rfl, ?_, fun w => a3 w⟩
      rcases fsp with ⟨w, _⟩ | ⟨c', w, _⟩
      · rw [w, if_neg (by omega)]
      · rw [if_pos (by omega)]
  · have := h5 i hi
    by_cases z : (i : Int) = (((t0 + mm) % 4096 : Nat) : Int)
    · rw [z, e157]
      omega
    · rw [k157 _ z]
      omega
  · refine HT_congr (by decide) (fun i hi => ?_) (fun j hj => ?_) (HT_add h6 (t := t0) (m := mm) (by decide) hm (by show (m 157 (((t0 + mm) % 4096 : Nat) : Int)).toNat = 0; rw [hz]; rfl) (fun m' hm' z => hnz m' hm' (by
      have z' : (m 157 (((t0 + m') % 4096 : Nat) : Int)).toNat = 0 := z
      have := h5 ((t0 + m') % 4096) (Nat.mod_lt _ (by decide))
      omega)))
    · show (if i = (t0 + mm) % 4096 then F + 1 else (m 157 i).toNat) = (m' 157 i).toNat
      by_cases z : i = (t0 + mm) % 4096
      · rw [if_pos z, z, e157]
        omega
      · rw [if_neg z, k157 _ (show ¬ ((i : Nat) : Int) = (((t0 + mm) % 4096 : Nat) : Int) by omega)]
    · show (if j = F then t0 else (asP (m 154 j) (sl (m 155) (4 * (j : Int)) (W (m 154 j)))).toNat) = (asP (m' 154 j) (sl (m' 155) (4 * (j : Int)) (W (m' 154 j)))).toNat
      by_cases z : j = F
      · rw [if_pos z, z, e154, hW, eps, ep]
        rfl
      · have hw4 := (h3 j (by omega)).2.1
        have es : sl (m' 155) (4 * (j : Int)) (W (m 154 j)) = sl (m 155) (4 * (j : Int)) (W (m 154 j)) := sl_eq.mpr ⟨rfl, fun i hi => k155 _ (by omega)⟩
        rw [if_neg z, k154 j (by omega), es]
/-- an atom is held -/
theorem c_hold (H : RS μ) (hI : HdI W m F) (hx : 0 ≤ x ∧ x < m 125 9) (h9 : m 125 9 ≤ 1010) (hc : c ≤ 4) (hW : W x = c) (hR : ∀ k : Nat, k < c → 0 ≤ m 168 k ∧ m 168 k < 130000) (hL : ∀ k : Nat, k < c → iR (m 152 (m 168 k))) (h56 : m 125 56 = 0 ∨ m 125 56 = 1)
    (hf : ∀ a : Nat, a < F → isA m a x (sl (m 168) 0 c) → Q (.inl (some (.int (zI 0)))) (sA μ m l))
    (hg : F = 1000 → (∀ a : Nat, a < F → ¬ isA m a x (sl (m 168) 0 c)) → Q (.inl (some (.int (zI 0)))) (sA μ (up m 125 56 1) l))
    (hn : F < 1000 → (∀ a : Nat, a < F → ¬ isA m a x (sl (m 168) 0 c)) → ∀ m' : PM, HdI W m' (F + 1) → isA m' F x (sl (m 168) 0 c) → (∀ a : Nat, a < F → m' 154 a = m 154 a) → (∀ j, j < 4 * (F : Int) → m' 155 j = m 155 j) → m' 125 56 = bP (m 125 56 = 1 ∨ ∃ k : Nat, k < c ∧ 48 < m 152 (m 168 k)) → (∀ c j, ¬ WHd c j → m' c j = m c j) → Q (.inl (some (.int (zI 1)))) (sA μ m' l)) :
    Wp (d + 2) 217 (0, [some (.ref 125), some (.int (zI x)), some (.int (zI (c : Int))), none, none], [], sA μ m l) Q := by
  obtain ⟨e48, hF, h4, h5, h7, h6⟩ := id hI
  refine R217_0 H ⟨fun y μ' => μ' = sA μ m l ∧ ((∃ a : Nat, a < F ∧ isA m a x (sl (m 168) 0 c) ∧ y = zI (a : Int)) ∨ ((∀ a : Nat, a < F → ¬ isA m a x (sl (m 168) 0 c)) ∧ ∃ t0 mm : Nat, t0 < 4096 ∧ mm < 4096 ∧ asP x (sl (m 168) 0 c) = (t0 : Int) ∧ m 157 (((t0 + mm) % 4096 : Nat) : Int) = 0 ∧ (∀ m', m' < mm → ¬ m 157 (((t0 + m') % 4096 : Nat) : Int) = 0) ∧ y = zI (-1 - (((t0 + mm) % 4096 : Nat) : Int)))), noX, c_find H hI ⟨by omega, by omega⟩ hc hW (fun k hk => by have := hR k hk; exact ⟨by omega, by omega⟩) (by omega) (fun a ha hA => ⟨rfl, Or.inl ⟨a, ha, hA, rfl⟩⟩) (fun hno t0 mm y1 y2 y3 y4 y5 => ⟨rfl, Or.inr ⟨hno, t0, mm, y1, y2, y3, y4, y5, rfl⟩⟩), fun y μ' hy => ?_, fun _ _ z => z.elim⟩
  obtain ⟨rfl, hy⟩ := hy
  rcases hy with ⟨a, ha, hA, rfl⟩ | ⟨hno, t0, mm, y1, y2, y3, y4, y5, rfl⟩
  · exact R217_6 H ⟨⟨by omega, by omega⟩, fun z => by omega, fun _ => hf a ha hA⟩
  · have hl := Nat.mod_lt (t0 + mm) (show 0 < 4096 by decide)
    refine R217_6 H ⟨⟨by omega, by omega⟩, fun _ => ⟨by rw [e48]; exact ⟨by omega, by omega⟩, fun z => ?_, fun z => ?_⟩, fun z => by omega⟩
    · rw [e48] at z ⊢
      have hlt : F < 1000 := by omega
      refine ⟨⟨by omega, by omega⟩, ⟨by omega, by omega⟩, ?_⟩
      rw [show -1 - (-1 - (((t0 + mm) % 4096 : Nat) : Int)) = (((t0 + mm) % 4096 : Nat) : Int) by omega]
      rintro m1 e1
      have f1 : ∀ c j, ¬ ((c = 157 ∧ j = (((t0 + mm) % 4096 : Nat) : Int)) ∨ (c = 154 ∧ j = (F : Int))) → m1 c j = m c j := fun c j w => by rw [e1, up_o (by omega), up_o (by omega)]
      have g157 : m1 157 (((t0 + mm) % 4096 : Nat) : Int) = (F : Int) + 1 := by rw [e1, up_c (by decide), up_s]
      have g154 : m1 154 F = x := by rw [e1, up_s]
      have loop : ∀ (f j : Nat) (mj : PM), j + f = c → (∀ c i, ¬ ((c = 155 ∧ 4 * (F : Int) ≤ i) ∨ (c = 125 ∧ i = 56)) → mj c i = m1 c i) → (∀ k : Nat, k < j → mj 155 (4 * (F : Int) + k) = m 168 k) → mj 125 56 = bP (m 125 56 = 1 ∨ ∃ k : Nat, k < j ∧ 48 < m 152 (m 168 k)) → Wp (d + 2) 217 (57, [some (.ref 125), some (.int (zI x)), some (.int (zI (c : Int))), some (.int (zI (-1 - (((t0 + mm) % 4096 : Nat) : Int)))), some (.int (zI (j : Int)))], [], sA μ mj l) Q := by
        intro f
        induction f with
        | zero =>
          intro j mj hj k1 k2 k3
          have ej : j = c := by omega
          rw [ej] at k2 k3
          have j48 : mj 125 48 = (F : Int) := by rw [k1 _ _ (by omega), f1 _ _ (by omega)]; exact e48
          have j160 : mj 160 x = m 160 x := by rw [k1 _ _ (by omega), f1 _ _ (by omega)]
          have j159 : mj 159 x = m 159 x := by rw [k1 _ _ (by omega), f1 _ _ (by omega)]
          obtain ⟨q1, q2, q3⟩ := h5 x hx.1 hx.2
          have cr := cnF_r (m 154) x F
          have lr := lsF_r (m 154) x F
          refine R217_57 H ⟨⟨by omega, by omega⟩, ⟨by omega, by omega⟩, fun _ => ⟨by rw [j48]; exact ⟨by omega, by omega⟩, ⟨by omega, by omega⟩, by rw [j160, q1]; exact ⟨by omega, by omega⟩, fun w => ?_, fun w => ?_⟩, fun w => by omega⟩
          · rw [j160] at w
            have hpos : 0 < cnF (m 154) x F := by omega
            have ls := lsF_sp (m 154) x F
            have e159 := q3 hpos
            have hr : 0 ≤ m 159 x ∧ m 159 x < (F : Int) := by
              rcases ls with ⟨_, v⟩ | ⟨cl, v, v2, _⟩
              · exact absurd ((cnF_sp (m 154) x F).mpr v) (by omega)
              · omega
            rw [j48, j159, j160]
            rintro m2 e2
            refine ⟨⟨by omega, by omega⟩, ?_⟩
            rintro m3 e3 m4 e4
            generalize e5 : up m4 125 48 ((F : Int) + 1) = m5
            have f5 : ∀ c i, ¬ ((c = 156 ∧ (i = (F : Int) ∨ i = m 159 x)) ∨ ((c = 159 ∨ c = 160) ∧ i = x) ∨ (c = 125 ∧ i = 48)) → m5 c i = mj c i := fun c i v => by rw [← e5, up_o (by omega), e4, up_o (by omega), up_o (by omega), e3, up_o (by omega), e2, up_o (by omega)]
            have f50 : ∀ c i, ¬ WHd c i → m5 c i = m c i := fun c i v => by rw [f5 c i (by omega), k1 c i (by omega), f1 c i (by omega)]
            have old : ∀ c i, ¬ ((c = 156 ∧ (i = (F : Int) ∨ i = m 159 x)) ∨ ((c = 159 ∨ c = 160) ∧ i = x) ∨ (c = 125 ∧ (i = 48 ∨ i = 56)) ∨ (c = 155 ∧ 4 * (F : Int) ≤ i) ∨ (c = 157 ∧ i = (((t0 + mm) % 4096 : Nat) : Int)) ∨ (c = 154 ∧ i = (F : Int))) → m5 c i = m c i := fun c i v => by rw [f5 c i (by omega), k1 c i (by omega), f1 c i (by omega)]
            obtain ⟨r1, r2⟩ := HdI_add (m' := m5) (x := x) (c := c) hI hlt hx hc hW hR y2 y3 y4 y5 (old _ _ (by omega)) (by rw [← e5, up_s]) (fun a ha => old _ _ (by omega)) (by rw [f5 _ _ (by omega), k1 _ _ (by omega)]; exact g154) (fun j hj => old _ _ (by omega)) (fun k hk => by rw [f5 _ _ (by omega)]; exact k2 k hk) (by rw [← e5, up_c (by decide), e4, up_c (by decide), up_c (by decide), e3, up_i (by omega), e2, up_s]) (fun _ => by rw [← e5, up_c (by decide), e4, up_c (by decide), up_c (by decide), e3, up_s]) (fun a ha v => old _ _ (by omega)) (fun v => absurd v w) (fun y v => old _ _ (by omega)) (by rw [← e5, up_c (by decide), e4, up_c (by decide), up_s]) (fun y v => old _ _ (by omega)) (by rw [← e5, up_c (by decide), e4, up_s]) (fun y v => old _ _ (by omega)) (by rw [f5 _ _ (by omega), k1 _ _ (by omega)]; exact g157) (fun i v => old _ _ (by omega))
            exact hn hlt hno m5 r1 r2 (fun a ha => old _ _ (by omega)) (fun j hj => old _ _ (by omega)) (by rw [f5 _ _ (by omega)]; exact k3) f50
          · have w : m 160 x = 0 := by rw [← j160]; exact Classical.byContradiction w
            rw [j48, j160]
            rintro m2 e2 m3 e3 m4 e4
            generalize e5 : up m4 125 48 ((F : Int) + 1) = m5
            have f5 : ∀ c i, ¬ ((c = 156 ∧ i = (F : Int)) ∨ ((c = 158 ∨ c = 159 ∨ c = 160) ∧ i = x) ∨ (c = 125 ∧ i = 48)) → m5 c i = mj c i := fun c i v => by rw [← e5, up_o (by omega), e4, up_o (by omega), up_o (by omega), e3, up_o (by omega), e2, up_o (by omega)]
            have f50 : ∀ c i, ¬ WHd c i → m5 c i = m c i := fun c i v => by rw [f5 c i (by omega), k1 c i (by omega), f1 c i (by omega)]
            have old : ∀ c i, ¬ ((c = 156 ∧ i = (F : Int)) ∨ ((c = 158 ∨ c = 159 ∨ c = 160) ∧ i = x) ∨ (c = 125 ∧ (i = 48 ∨ i = 56)) ∨ (c = 155 ∧ 4 * (F : Int) ≤ i) ∨ (c = 157 ∧ i = (((t0 + mm) % 4096 : Nat) : Int)) ∨ (c = 154 ∧ i = (F : Int))) → m5 c i = m c i := fun c i v => by rw [f5 c i (by omega), k1 c i (by omega), f1 c i (by omega)]
            obtain ⟨r1, r2⟩ := HdI_add (m' := m5) (x := x) (c := c) hI hlt hx hc hW hR y2 y3 y4 y5 (old _ _ (by omega)) (by rw [← e5, up_s]) (fun a ha => old _ _ (by omega)) (by rw [f5 _ _ (by omega), k1 _ _ (by omega)]; exact g154) (fun j hj => old _ _ (by omega)) (fun k hk => by rw [f5 _ _ (by omega)]; exact k2 k hk) (by rw [← e5, up_c (by decide), e4, up_c (by decide), up_c (by decide), e3, up_c (by decide), e2, up_s]) (fun v => absurd w v) (fun a ha v => old _ _ (by omega)) (fun v => by rw [← e5, up_c (by decide), e4, up_c (by decide), up_c (by decide), e3, up_s]) (fun y v => old _ _ (by omega)) (by rw [← e5, up_c (by decide), e4, up_c (by decide), up_s]) (fun y v => old _ _ (by omega)) (by rw [← e5, up_c (by decide), e4, up_s]) (fun y v => old _ _ (by omega)) (by rw [f5 _ _ (by omega), k1 _ _ (by omega)]; exact g157) (fun i v => old _ _ (by omega))
            exact hn hlt hno m5 r1 r2 (fun a ha => old _ _ (by omega)) (fun j hj => old _ _ (by omega)) (by rw [f5 _ _ (by omega)]; exact k3) f50
        | succ f ih =>
          intro j mj hj k1 k2 k3
          have j48 : mj 125 48 = (F : Int) := by rw [k1 _ _ (by omega), f1 _ _ (by omega)]; exact e48
          have j168 : ∀ i, mj 168 i = m 168 i := fun i => by rw [k1 _ _ (by omega), f1 _ _ (by omega)]
          have j152 : ∀ i, mj 152 i = m 152 i := fun i => by rw [k1 _ _ (by omega), f1 _ _ (by omega)]
          have hr := hR j (by omega)
          refine R217_57 H ⟨⟨by omega, by omega⟩, ⟨by omega, by omega⟩, fun w => by omega, fun _ => ⟨⟨by omega, by omega⟩, by rw [j48]; exact ⟨by omega, by omega⟩, by rw [k3]; exact bP_R _, ⟨fun _ => trivial, fun _ => ⟨by rw [j168]; exact hr, by rw [j168, j152]; exact hL j (by omega), trivial⟩⟩, ?_⟩⟩
          rw [j48, j168, j152]
          rintro m7 e7 v8 e8 m9 e9
          refine ih (j + 1) m9 (by omega) (fun c i v => by rw [e9, up_o (by omega), e7, up_o (by omega)]; exact k1 c i v) (fun k hk => ?_) ?_
          · rw [e9, up_c (by decide)]
            by_cases v : k = j
            · rw [v, e7, up_s]
            · rw [e7, up_i (by omega)]
              exact k2 k (by omega)
          · rw [e9, up_s, e8, k3]
            by_cases v : m 125 56 = 1 ∨ ∃ k : Nat, k < j ∧ 48 < m 152 (m 168 k)
            · rw [if_pos (by rw [bP_1 v]; decide)]
              refine (bP_1 ?_).symm
              rcases v with v | ⟨k, k1, k2⟩
              · exact Or.inl v
              · exact Or.inr ⟨k, by omega, k2⟩
            · rw [if_neg (fun u => u (bP_0 v))]
              by_cases u : m 152 (m 168 (j : Int)) ≤ 48
              · rw [if_pos u]
                refine (bP_0 ?_).symm
                rintro (t | ⟨k, k1, k2⟩)
                · exact v (Or.inl t)
                · by_cases s : k = j
                  · rw [s] at k2
                    omega
                  · exact v (Or.inr ⟨k, by omega, k2⟩)
              · rw [if_neg u]
                exact (bP_1 (Or.inr ⟨j, by omega, by omega⟩)).symm
      refine loop c 0 m1 (by omega) (fun _ _ _ => rfl) (fun k hk => absurd hk (Nat.not_lt_zero k)) ?_
      rw [f1 _ _ (by omega)]
      rcases h56 with v | v
      · rw [v]
        refine (bP_0 ?_).symm
        rintro (u | ⟨k, k1, _⟩)
        · exact absurd u (by decide)
        · exact absurd k1 (Nat.not_lt_zero k)
      · rw [v]
        exact (bP_1 (Or.inl rfl)).symm
    · refine hg ?_ hno
      have : m 125 48 = 1000 := Classical.byContradiction z
      omega
/-- no atom holds -/
theorem c_noAtoms (H : RS μ) (h9 : 0 ≤ m 125 9 ∧ m 125 9 ≤ 1010) : Wp d 213 (0, [some (.ref 125), none], [], sA μ m l) (pV (fun μ' => ∃ m', μ' = sA μ m' l ∧ HdI W m' 0 ∧ ∀ c j, ¬ ((c = 157 ∨ c = 158 ∨ c = 160) ∨ (c = 125 ∧ j = 48)) → m' c j = m c j) noX) := by
  have l2 : ∀ (f i : Nat) (m' : PM), ((i + f : Nat) : Int) = m 125 9 → (∀ j : Nat, j < 4096 → m' 157 j = 0) → (∀ j : Nat, j < i → m' 160 j = 0 ∧ m' 158 j = -1) → (∀ c j, ¬ (c = 157 ∨ c = 158 ∨ c = 160) → m' c j = m c j) → Wp d 213 (24, [some (.ref 125), some (.int (zI (i : Int)))], [], sA μ m' l) (pV (fun μ' => ∃ m', μ' = sA μ m' l ∧ HdI W m' 0 ∧ ∀ c j, ¬ ((c = 157 ∨ c = 158 ∨ c = 160) ∨ (c = 125 ∧ j = 48)) → m' c j = m c j) noX) := by
    intro f
    induction f with
    | zero =>
      intro i m' hi g1 g2 g3
      have e9 : m' 125 9 = m 125 9 := g3 _ _ (by omega)
      refine R213_24 H ⟨⟨by omega, by omega⟩, by rw [e9]; exact ⟨by omega, by omega⟩, fun _ => ⟨_, rfl, ⟨up_s _ _ _ _, by decide, fun a ha => absurd ha (Nat.not_lt_zero a), fun y y0 y1 => ?_, fun j hj => ?_, ?_⟩, fun c j z => by rw [up_o (by omega)]; exact g3 c j (by omega)⟩, fun z => by omega⟩
      · rw [up_i (by decide), e9] at y1
        obtain ⟨q1, q2⟩ := g2 y.toNat (by omega)
        rw [show ((y.toNat : Nat) : Int) = y by omega] at q1 q2
        rw [up_c (by decide), up_c (by decide), q1, q2]
        exact ⟨rfl, rfl, fun w => absurd (show (0 : Int) < 0 from w) (by decide)⟩
      · rw [up_c (by decide), g1 j hj]
        exact ⟨by decide, by decide⟩
      · exact HT_congr (by decide) (fun i hi => by show 0 = _; rw [up_c (by decide), g1 i hi]; rfl) (fun k hk => absurd hk (Nat.not_lt_zero k)) (HT_0 4096 (fun _ => 0))
    | succ f ih =>
      intro i m' hi g1 g2 g3
      have e9 : m' 125 9 = m 125 9 := g3 _ _ (by omega)
      refine R213_24 H ⟨⟨by omega, by omega⟩, by rw [e9]; exact ⟨by omega, by omega⟩, fun z => by omega, fun _ => ⟨⟨by omega, by omega⟩, ?_⟩⟩
      rintro m1 e1
      refine ih (i + 1) m1 (by omega) (fun j hj => by rw [e1, up_c (by decide), up_c (by decide)]; exact g1 j hj) (fun j hj => ?_) (fun c j z => by rw [e1, up_o (by omega), up_o (by omega)]; exact g3 c j z)
      by_cases w : j = i
      · rw [w, e1]
        exact ⟨by rw [up_c (by decide), up_s], up_s _ _ _ _⟩
      · rw [e1, up_c (by decide), up_i (by omega), up_i (by omega), up_c (by decide)]
        exact g2 j (by omega)
  have l1 : ∀ (f i : Nat) (m' : PM), i + f = 4096 → (∀ j : Nat, j < i → m' 157 j = 0) → (∀ c j, ¬ (c = 157 ∨ c = 158 ∨ c = 160) → m' c j = m c j) → Wp d 213 (2, [some (.ref 125), some (.int (zI (i : Int)))], [], sA μ m' l) (pV (fun μ' => ∃ m', μ' = sA μ m' l ∧ HdI W m' 0 ∧ ∀ c j, ¬ ((c = 157 ∨ c = 158 ∨ c = 160) ∨ (c = 125 ∧ j = 48)) → m' c j = m c j) noX) := by
    intro f
    induction f with
    | zero =>
      intro i m' hi g1 g3
      refine R213_2 H ⟨⟨by omega, by omega⟩, fun _ => ?_, fun z => by omega⟩
      exact l2 (m 125 9).toNat 0 m' (by omega) (fun j hj => g1 j (by omega)) (fun j hj => absurd hj (Nat.not_lt_zero j)) g3
    | succ f ih =>
      intro i m' hi g1 g3
      refine R213_2 H ⟨⟨by omega, by omega⟩, fun z => by omega, fun _ => ⟨⟨by omega, by omega⟩, ?_⟩⟩
      rintro m1 e1
      refine ih (i + 1) m1 (by omega) (fun j hj => ?_) (fun c j z => by rw [e1, up_o (by omega)]; exact g3 c j z)
      by_cases w : j = i
      · rw [w, e1, up_s]
      · rw [e1, up_i (by omega)]
        exact g1 j (by omega)
  exact R213_0 H (l1 4096 0 m (by omega) (fun j hj => absurd hj (Nat.not_lt_zero j)) (fun _ _ _ => rfl))
end RA2
