/-! ===== the reference's reader: distinct, a condition, all conditions ===== -/
section CN3
variable {t : Int → Int} {n : Int} {μ : am_Mem} {l : PM}
theorem sim_dist (H : RS μ) (hn : 0 ≤ n ∧ n ≤ 2000) {i : Nat} {vs : List (List Int)} {ms : PM} {k : Int} (hB : BI t n ms i vs) (hR : RB ms) (hF : Fr ms 1 1 k) (hk : 1 ≤ k ∧ k ≤ 8) (h1 : tK t n i = 1) (h3 : tK t n (i + 1) = 3) (hw : tW t n (i + 1) = wdL.getD 1 []) :
    match (match pPa t n 8 (i + 2) vs [] 2 2 with | .inl x => (.inl x : Rd (Nat × Atm)) | .inr (a, i', vs') => .inr ((3, a), i', vs')) with
      | .inl x => ∃ m', Rch μ l ms m' ∧ Flt t n ms m' x
      | .inr (c, i', vs') => ∃ m', Rch μ l ms m' ∧ BI t n m' i' vs' ∧ CP ms m' c.2 c.1 (decide (c.1 = 3)) := by
  have h34 := hF.2.2.1
  have h144 := hF.2.2.2.2.1
  have e : ∀ j, up ms 144 0 (k + 1) 125 j = ms 125 j := fun j => up_c (by decide)
  have hBu := BI_up144 (j := 0) (k := k + 1) hB
  have hRu : RB (up ms 144 0 (k + 1)) := RB_cg (e _) (e _) (e _) hR
  have hr : Rch μ l ms (adtM (up ms 144 0 (k + 1))) := part_a (s := 1) H hB hF (by omega) (by rw [if_pos rfl]; omega) (by rw [if_neg (by decide), if_neg (by omega)]) (fun d => ba_dist H hn hBu hRu h1 (by rw [e]; omega) h3 hw d)
  have m34 : up ms 144 0 (k + 1) 125 34 = 1 := by rw [e]; exact h34
  have hPM : ∀ c j, ¬ PCl c j → up ms 144 0 (k + 1) c j = ms c j := fun c j q => up_o (by omega)
  have hCP := fun m' (a : Atm) (h : AP (up ms 144 0 (k + 1)) m' a 3 true) => CP_AP h34 h144 h
  generalize hm : up ms 144 0 (k + 1) = m at hBu hRu hr m34 hPM hCP
  have hB1 := BI_skip hBu (nN1 (Or.inl h1))
  obtain ⟨w1, w2⟩ := word_nm hn hB1 h3 (j := 1) (by decide) hw
  obtain ⟨hAB, -⟩ := abM_AB (m := adM m) (mm := adM m) (v := -1) (s := 3) (fun _ _ _ => rfl)
  obtain ⟨hBg, hXg⟩ := AB_BI (v := -1) hn hB1 (Or.inl h3) 3
  rw [w1] at hBg hXg
  unfold adtM at hr
  generalize hg : abM (adM m) (-1) 3 = g at hAB hBg hXg hr
  have z18 : adM m 125 18 = m 125 18 := adM_o (by omega)
  have g34 : g 125 34 = m 125 34 := by rw [hAB.1 _ _ (by omega), adM_o (by omega)]
  have g22 : g 125 22 = m 125 22 := by rw [hAB.1 _ _ (by omega), adM_o (by omega)]
  have g137 : g 137 (m 125 18) = 0 := by have := hAB.2.2.2.1; rw [z18] at this; exact this
  have eo : m 125 34 + 1 - 1 = m 125 34 := by omega
  have hI : PI2 t n (8 + 1) (adM (m_within g 4 (m 125 18))) (i + 2) vs 4 (m 125 34 + 1) (m 125 18) 136 137 (m 125 22) [] := by
    refine ⟨BI_within hBg g34, ⟨by omega, by omega, ?_, ?_, ?_, ?_, by omega⟩, ?_, ?_, trivial, Or.inr ⟨Or.inr rfl, rfl, rfl, by omega, hBu.2.2.2.1.1⟩⟩
    · rw [adM_o (by omega), within_eq g34, up_s]
    · rw [eo, adM_o (by omega), within_eq g34, up_c (by decide), up_c (by decide), up_c (by decide), up_s]
    · rw [eo, adM_o (by omega), within_eq g34, up_c (by decide), up_s]
    · rw [eo, adM_o (by omega), within_eq g34, up_c (by decide), up_c (by decide), up_s]
      rfl
    · rw [adM_o (by omega), within_eq g34, up_c (by decide), up_c (by decide), up_c (by decide), up_c (by decide), g137]
      rfl
    · rw [adM_o (by omega), within_eq g34, up_i (by decide), up_c (by decide), up_c (by decide), up_c (by decide), g22]
      show m 125 22 = m 125 22 + ((0 : Nat) : Int)
      omega
  have hAt := atom_parts (l := l) H hn (Or.inr rfl) hI (by omega) 2 2 rfl rfl
  unfold pPa
  generalize pPs (tK t n) (pT t n 8) 2 2 (i + 2) vs [] = res at hAt ⊢
  match res, hAt with
  | .inl x, hAt =>
    obtain ⟨m', r2, hF'⟩ := hAt
    refine ⟨m', hr.trans r2, Flt_of hF' (fun c j q => ?_)⟩
    rw [adM_o (by omega), within_eq g34, up_o (by omega), up_o (by omega), up_o (by omega), up_o (by omega), hAB.1 c j (by omega), adM_o (by omega), hPM c j q]
  | .inr (ps, i', vs'), hAt =>
    obtain ⟨m3, r3, hB3, q1, q2, q3, q4, q5, q6, q7⟩ := hAt
    exact ⟨m3, hr.trans r3, hB3, hCP m3 ([], ps) (AP_parts (g := g) (v := -1) (what := 4) (at_ := ([], ps)) (dd := true) q7 (by omega) hBu.2.2.2.1.1 (by omega) hAB (fun x u z => hXg x u (nX_cg (adM_o (by omega)) (fun j => adM_o (by omega)) (fun j => adM_o (by omega)) z)) rfl q1 q2 q3 q4 q5 q6)⟩
theorem sim_cond (H : RS μ) (hn : 0 ≤ n ∧ n ≤ 2000) {i : Nat} {vs : List (List Int)} {ms : PM} {k : Int} (hB : BI t n ms i vs) (hR : RB ms) (hF : Fr ms 1 1 k) (hk : 1 ≤ k ∧ k ≤ 8) (h2 : ¬ tK t n i = 2) :
    match pCo t n i vs with
      | .inl x => ∃ m', Rch μ l ms m' ∧ Flt t n ms m' x
      | .inr (c, i', vs') => ∃ m', Rch μ l ms m' ∧ BI t n m' i' vs' ∧ CP ms m' c.2 c.1 (decide (c.1 = 3)) := by
  unfold pCo
  by_cases q1 : tK t n i = 1 ∧ tK t n (i + 1) = 3 ∧ tW t n (i + 1) = wdL.getD 0 []
  · rw [if_pos q1]
    exact sim_not H hn hB hR hF hk q1.1 q1.2.1 q1.2.2
  · rw [if_neg q1]
    by_cases q2 : tK t n i = 1 ∧ tK t n (i + 1) = 3 ∧ tW t n (i + 1) = wdL.getD 1 []
    · rw [if_pos q2]
      exact sim_dist H hn hB hR hF hk q2.1 q2.2.1 q2.2.2
    · rw [if_neg q2]
      have e : ∀ j, up ms 144 0 (k + 1) 125 j = ms 125 j := fun j => up_c (by decide)
      have h34 := hF.2.2.1
      have h := simA (l := l) (ms := ms) (s := 1) (dl := 8) H hn (BI_up144 (j := 0) (k := k + 1) hB) (RB_cg (e _) (e _) (e _) hR) (by rw [e, h34]; omega) (by decide) (fun _ y1 y2 => ⟨y2, fun z => q1 ⟨y1, y2, z⟩, fun z => q2 ⟨y1, y2, z⟩⟩) (fun m' hw => part_a H hB hF h2 (by rw [if_pos rfl]; omega) (by rw [if_neg (by decide), if_neg (by omega)]) hw)
      generalize pAt t n 8 i vs = res at h ⊢
      match res, h with
      | .inl x, h =>
        obtain ⟨m', r, hf⟩ := h
        exact ⟨m', r, Flt_of hf (fun c j q => up_o (by omega))⟩
      | .inr (a, i', vs'), h =>
        obtain ⟨m', r, hb, hp⟩ := h
        exact ⟨m', r, hb, CP_AP h34 hF.2.2.2.2.1 hp⟩
/-- a rule's head and conditions so far: its atoms lie below the atoms' number -/
def RuC (m : PM) (R C0 : Int) (h : Atm) (cs : List (Nat × Atm)) : Prop :=
  (0 ≤ m 131 (R - 1) ∧ m 131 (R - 1) < m 125 18 ∧ AtR m (m 131 (R - 1)) h false (m 125 22)) ∧ ∀ j : Nat, j < cs.length → m 133 (C0 + j) = ((cs.getD j (0, ([], []))).1 : Int) ∧ 0 ≤ m 134 (C0 + j) ∧ m 134 (C0 + j) < m 125 18 ∧ AtR m (m 134 (C0 + j)) (cs.getD j (0, ([], []))).2 (decide ((cs.getD j (0, ([], []))).1 = 3)) (m 125 22)
theorem AtR_SA {m m' : PM} {a : Int} {at_ : Atm} {d : Bool} {o C R : Int} (ha : 0 ≤ a ∧ a < m 125 18) (hs : ∀ c j, ¬ SA (m 125 22) o (m 125 18) C R c j → m' c j = m c j) (hX : ∀ x u, nX m x u → nX m' x u) (hnd : m 125 22 ≤ m' 125 22) (h : AtR m a at_ d (m 125 22)) : AtR m' a at_ d (m' 125 22) := by
  have hl := h.2.1
  exact AtR_cg hX hnd (hs _ _ (by unfold SA; omega)) (hs _ _ (by unfold SA; omega)) (fun j j1 j2 => hs _ _ (by unfold SA; omega)) (fun j j1 j2 => ⟨hs _ _ (by unfold SA; omega), hs _ _ (by unfold SA; omega), hs _ _ (by unfold SA; omega), hs _ _ (by unfold SA; omega)⟩) (fun j j1 j2 => hs _ _ (by unfold SA; omega)) h
end CN3
