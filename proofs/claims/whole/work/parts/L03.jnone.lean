/-! ===== the reference's sheet; the text's calls and those without a sheet ===== -/
section LRS
variable {d : Nat} {μ : am_Mem} {Q : Option Value ⊕ Nat → am_Mem → Prop} {W : Int → Nat} {rs : List Rul} {L : List (List Cd)} {B : Nat} {m0 l0 : PM} {st : Option (List (List Cd))} {xp : Option (List (List (List Cd)) × List (List Nat))}
theorem r_sheet {x : Int} (H : RS μ) (hx : iR x) (hI : RfP W rs L B m0 st xp)
    (h2' : ∀ m' : PM, ¬ (0 ≤ x ∧ x ≤ 1) → RfP W rs L B m' st xp → m' 125 0 = 2 → (∀ c j, ¬ WPb c j → m' c j = m0 c j) → Q (.inl (some (.int (zI 0)))) (sA μ m' l0))
    (hok : ∀ m' : PM, (0 ≤ x ∧ x ≤ 1) → RfP W rs L B m' st xp → m' 125 0 = 0 → (∀ c j, ¬ WPb c j → m' c j = m0 c j) → Q (.inl (some (.int (zI (if x = 0 then (rs.length : Int) else (L.length : Int)))))) (sA μ m' l0)) :
    Wp (d + 2) 210 (0, [some (.ref 125), some (.int (zI x))], [], sA μ m0 l0) Q := by
  obtain ⟨h1, h2, h3, h4, h5⟩ := id hI
  have n4 : ¬ m0 125 4 = 0 := by rw [h2]; decide
  have e70 : m0 125 70 = (L.length : Int) := h1.2.2.2.2.1
  have e12 : m0 125 12 = (rs.length : Int) := h1.1.1.1
  refine R210_0 H ⟨by rw [h2]; exact iR_1, fun v1 ev1 => ⟨⟨fun _ => trivial, fun _ => ⟨hx, trivial⟩⟩, fun v2 ev2 => ?_⟩⟩
  rw [if_pos n4] at ev1
  rw [if_neg n4] at ev2
  by_cases q : 0 ≤ x ∧ x ≤ 1
  · rw [if_pos q, if_pos (by decide)] at ev2
    rw [ev1, ev2]
    refine ⟨iR_0, rg_0 iR_0 iR_0, fun m3 e3 => ⟨by rw [rf_0]; exact iR_0, fun _ => ⟨hx, fun v4 ev4 => ?_⟩, fun z => absurd rf_0 z⟩⟩
    rw [rm_0] at e3
    have f3 : ∀ c j, ¬ (c = 125 ∧ j = 0) → m3 c j = m0 c j := fun c j z => by rw [e3]; exact up_o z
    have ev : v4 = if x = 0 then (rs.length : Int) else (L.length : Int) := by
      rw [ev4]
      by_cases y : x = 0
      · rw [if_neg (fun z => z y), if_pos y, e12]
      · rw [if_pos y, if_neg y, e70]
    rw [ev]
    exact hok m3 q (RfP_0 f3 hI) (by rw [e3, up_s]) (fun c j z => f3 c j (f1_0 (wp_f z)))
  · rw [if_neg q, if_neg (fun z => z rfl)] at ev2
    rw [ev1, ev2]
    refine ⟨iR_0, rg_0 iR_1 iR_0, fun m3 e3 => ⟨by rw [rf_2]; exact iR_1, fun z => absurd (rf_2.symm.trans z) (by decide), fun _ => ?_⟩⟩
    rw [rm_2] at e3
    have f3 : ∀ c j, ¬ (c = 125 ∧ j = 0) → m3 c j = m0 c j := fun c j z => by rw [e3]; exact up_o z
    exact h2' m3 q (RfP_0 f3 hI) (by rw [e3, up_s]) (fun c j z => f3 c j (f1_0 (wp_f z)))
end LRS
section LNO
variable {L i d : Nat} {xs : Nat → Int32} {μ μ' : am_Mem}
/-- places of the text -/
abbrev TxQ (c : Nat) (j : Int) : Prop := (c = 16 ∧ j = 1) ∨ c = 17 ∨ (c = 125 ∧ (j = 0 ∨ j = 2)) ∨ c = 126 ∨ c = 185
theorem jc_tx {e c : Nat} {j : Int} (he : e = 108 ∨ 185 < e) (z : JcT e c j) : ¬ TxQ c j := fun y => by
  rcases z with z | z | z | z | z | z | z | z | z <;> rcases y with y | y | y | y | y <;> omega
theorem sic_b {s q c : Nat} {j : Int} (hs : s = 22 ∨ s = 42) (z : SIc s q c j) : (22 ≤ c ∧ c ≤ 103) ∨ (c = 16 ∧ (j = 12 ∨ j = 14)) ∨ (q ≤ c ∧ c ≤ q + 7) := by
  rcases z with z | z | z | z | z | z | z | z | z | z | z | z <;> omega
theorem js_tx {s q c : Nat} {j : Int} (hs : s = 22 ∨ s = 42) (hq : q = 85 ∨ 185 < q) (z : SIc s q c j ∨ (c = 16 ∧ (j = 6 ∨ j = 17)) ∨ c = 106 ∨ (113 ≤ c ∧ c ≤ 122) ∨ RfT c j) : ¬ TxQ c j := fun y => by
  rcases z with z | z | z | z | z
  · have w := sic_b hs z
    clear z
    rcases y with y | y | y | y | y <;> rcases w with w | w | w <;> omega
  · rcases y with y | y | y | y | y <;> omega
  · rcases y with y | y | y | y | y <;> omega
  · rcases y with y | y | y | y | y <;> omega
  · rcases y with y | y | y | y | y <;> rcases z with z | z <;> omega
theorem jo_tx {q c : Nat} {j : Int} (hq : q = 85 ∨ 185 < q) (z : JoT q c j) : ¬ TxQ c j := fun y => by
  rcases z with z | z | z | z | z | z | z | z <;> rcases y with y | y | y | y | y <;> omega
theorem wt_tx {r j : Nat} (h : ¬ TxQ r (j : Int)) : ¬ wT r j := fun z => h (by
  unfold wT at z
  omega)
theorem j_text (hJ : JtP i μ) (h : TxP μ μ') : JtP (i + 1) μ' := by
  obtain ⟨hT, hR, μ0, m, l, s, q, e, rfl, hc, hm⟩ := hJ
  obtain ⟨⟨⟨g1, g2, g3, g4, g5⟩, g6⟩, g7, g8⟩ := h
  obtain ⟨m', l', e', km, kl, _⟩ := tx_m (P := TxQ) (μ := μ0) (m := m) (l := l) (μ' := μ') (fun r j hn => ⟨(g1 r j (wt_tx hn)).1, (g1 r j (wt_tx hn)).2.1⟩)
  have hS := hc.2.1
  have hs := hc.1
  refine ⟨g6, g8 hR, μ', m', l', s, q, e, e', JcP_k (μ := μ0) g2 g3 g7 g4 g5 (fun c j z => km c j (jc_tx hS.2.2.1.1 z)) hc, ?_⟩
  rcases hm with y | ⟨rs, X, W, W', N0, st, xp, y⟩
  · exact Or.inl (JoP_cg (fun c j z => km c j (jo_tx hS.2.2.2.1 z)) y)
  · exact Or.inr ⟨rs, X, W, W', N0, st, xp, JsP_cg (Nat.le_succ i) hS hs (fun c j z => km c j (js_tx hs hS.2.2.2.1 z)) y⟩
theorem j_mono (hJ : JtP i μ) : JtP (i + 1) μ := by
  obtain ⟨hT, hR, μ0, m, l, s, q, e, rfl, hc, hm⟩ := hJ
  refine ⟨hT, hR, μ0, m, l, s, q, e, rfl, JcP_k (μ := μ0) rfl rfl (Nat.le_refl _) (Nat.le_succ _) (Nat.le_add_right _ _) (fun _ _ _ => rfl) hc, ?_⟩
  rcases hm with y | ⟨rs, X, W, W', N0, st, xp, y⟩
  · exact Or.inl y
  · exact Or.inr ⟨rs, X, W, W', N0, st, xp, JsP_cg (Nat.le_succ i) hc.2.1 hc.1 (fun _ _ _ => rfl) y⟩
/-- between calls, without a sheet -/
def JzP (i : Nat) (ν : am_Mem) : Prop := TextI ν ∧ RngI ν ∧ ∃ (μ : am_Mem) (m l : PM) (s q e : Nat), ν = sA μ m l ∧ JcP i μ m s q e ∧ JoP m q
abbrev TxZ (c : Nat) (j : Int) : Prop := c = 125 ∧ (j = 0 ∨ j = 75)
theorem jc_tz {e c : Nat} {j : Int} (he : e = 108 ∨ 185 < e) (z : JcT e c j) : ¬ TxZ c j := fun y => by
  rcases z with z | z | z | z | z | z | z | z | z <;> omega
theorem jo_tz {q c : Nat} {j : Int} (hq : q = 85 ∨ 185 < q) (z : JoT q c j) : ¬ TxZ c j := fun y => by
  rcases z with z | z | z | z | z | z | z | z <;> omega
theorem j_post (hJ : JzP i μ) (h : PostN μ μ') : JtP (i + 1) μ' := by
  obtain ⟨hT, hR, μ0, m, l, s, q, e, rfl, hc, hm⟩ := hJ
  have gA := PostN_A h
  obtain ⟨g2, g3, gL, g4, g5⟩ := PostN_k h
  obtain ⟨m', l', e', km, kl, _⟩ := tx_m (P := TxZ) (μ := μ0) (m := m) (l := l) (μ' := μ') (fun r j hn => ⟨gA r j (by omega), by rw [gL]⟩)
  have hS := hc.2.1
  have g4' : am_n μ' = am_n μ0 + 1 := g4
  have g5' : am_sl μ' = am_sl μ0 + 6 := g5
  refine ⟨TextI_N hT h, fun j => ⟨by rw [gA 17 j (by omega)]; exact (hR j).1, by rw [gA 126 j (by omega)]; exact (hR j).2⟩, μ', m', l', s, q, e, e', JcP_k (μ := μ0) g2 g3 (by omega) (by omega) (by omega) (fun c j z => km c j (jc_tz hS.2.2.1.1 z)) hc, Or.inl (JoP_cg (fun c j z => km c j (jo_tz hS.2.2.2.1 z)) hm)⟩
theorem j_nosh (hJ : JzP i μ) : NoSh μ := by
  obtain ⟨hT, hR, μ0, m, l, s, q, e, rfl, hc, ⟨a1, a2, a3⟩, ⟨b1, b2, b3⟩, _⟩ := hJ
  have h7 := hc.2.2.2.2.2.2.1
  refine ⟨?_, ?_, ?_, ?_, ?_, ?_, ?_⟩
  · show zI (m 16 6) = 0
    rw [a1]; rfl
  · show zI (m 16 12) = Int32.ofInt (-1)
    rw [a2]; rfl
  · show zI (m 16 17) = Int32.ofInt 0
    rw [a3]; rfl
  · show zI (m 125 4) = 0
    rw [b1]; rfl
  · show zI (m 125 72) = 0
    rw [b2]; rfl
  · show zI (m 125 81) = 0
    rw [b3]; rfl
  · show zI (m 16 2) = zI (m 125 3)
    rw [h7]
theorem jz_t (hJ : JzP i μ) : JtP i μ := by
  obtain ⟨hT, hR, μ0, m, l, s, q, e, h1, hc, hm⟩ := hJ
  exact ⟨hT, hR, μ0, m, l, s, q, e, h1, hc, Or.inl hm⟩
/-- without a sheet: every call but read -/
theorem jz_case (hF : lawF L xs μ) (hi : 4 * i + 4 ≤ L) (hL : L ≤ 2048) (hJ : JzP i μ) : ∀ c, ¬ c = 2 → lawC L xs (d + 2) i c (JtP (i + 1)) μ := by
  obtain ⟨h1, h2, h3, h4, h5, h6, h7⟩ := j_nosh hJ
  have h3n : ¬ am_A μ 16 17 = Int32.ofInt 1 := by rw [h3]; decide
  have fT : ∀ μ', TxP μ μ' → JtP (i + 1) μ' := fun μ' h => j_text (jz_t hJ) h
  have fN : ∀ μ', PostN μ μ' → JtP (i + 1) μ' := fun μ' h => j_post hJ h
  intro c hc
  match c, hc with
  | 0, _ => exact lawC_mono fT 0 (tx_put (d := d + 1) hF hi hL hJ.1)
  | 1, _ => exact lawC_mono fT 1 (tx_end (d := d + 1) hF hi hL hJ.1)
  | 2, hc => exact absurd rfl hc
  | 3, _ => exact lawC_mono fT 3 (tx_fault hF h7 hJ.1)
  | 4, _ => exact lawC_mono fN 4 (none_sheet hF h1 h4)
  | 5, _ => exact lawC_mono fN 5 (none_start hF h1 h4)
  | 6, _ => exact lawC_mono fN 6 (none_moves hF h2 h5)
  | 7, _ => exact lawC_mono fN 7 (none_terminal hF h2 h5)
  | 8, _ => exact lawC_mono fN 8 (none_goal hF h2 h5)
  | 9, _ => exact lawC_mono fN 9 (none_play hF h2 h5)
  | 10, _ => exact lawC_mono fN 10 (none_sign hF h1 h4)
  | 11, _ => exact lawC_mono fN 11 (none_explore hF h1 h4)
  | 12, _ => exact lawC_mono fN 12 (none_defect hF h3n h6)
  | 13, _ => exact lawC_mono fN 13 (none_state hF h3n h6)
  | 14, _ => exact lawC_mono fN 14 (none_next hF h3n h6)
  | 15, _ => exact lawC_mono fN 15 (none_value hF h3n h6)
  | 16, _ => exact lawC_mono fN 16 (none_best hF h3n h6)
  | n + 17, _ => exact j_mono (jz_t hJ)
end LNO
