/-! ===== the reference's reader: heads and conditions ===== -/
section SIC
variable {t : Int → Int} {n : Int} {μ : am_Mem} {l : PM}
theorem simA (H : RS μ) (hn : 0 ≤ n ∧ n ≤ 2000) {dl i : Nat} {vs : List (List Int)} {m ms : PM} {s : Int} (hB : BI t n m i vs) (hR : RB m) (h34 : 0 ≤ m 125 34 ∧ m 125 34 + 1 + dl = 10) (hs : iR s) (hx : s = 1 → tK t n i = 1 → tK t n (i + 1) = 3 → pln t n (i + 1)) (hp : ∀ m', (∀ d, Wp (d + 5) 174 (0, [some (.ref 125), some (.int (zI s))], [], sA μ m l) (pV (fun μ' => μ' = sA μ m' l) noX)) → Rch μ l ms m') :
    match pAt t n dl i vs with
      | .inl x => ∃ m', Rch μ l ms m' ∧ Flt t n m m' x
      | .inr (a, i', vs') => ∃ m', Rch μ l ms m' ∧ BI t n m' i' vs' ∧ AP m m' a s false := by
  unfold pAt
  by_cases h1 : pln t n i
  · rw [if_pos h1]
    exact ⟨_, hp _ (fun d => ba_name H hn hB hR hs h1 d), (AB_BI hn hB (Or.inl h1.1) s).1, AP_name hn hB h1⟩
  · rw [if_neg h1]
    by_cases h2 : tK t n i = 1
    · rw [if_pos h2]
      by_cases h3 : pln t n (i + 1)
      · rw [if_pos h3]
        have hB1 := BI_skip hB (nN1 (Or.inl h2))
        have hr := hp _ (fun d => ba_open H hn hB hR hs (by omega) h2 h3 d)
        obtain ⟨a1, a2, a3, a4, a5⟩ := BI_name hn hB1 (Or.inl h3.1)
        obtain ⟨hAB, -⟩ := abM_AB (v := (nmI (adM m) (adM m 125 30) (adM m 125 31) : Int)) (s := s) (nmM_hs3 (m := adM m) (a := adM m 125 30) (b := adM m 125 31))
        obtain ⟨hBg, hXg⟩ := AB_BI (v := (nmI (adM m) (adM m 125 30) (adM m 125 31) : Int)) hn hB1 (Or.inl h3.1) s
        unfold aoM at hr
        generalize hg : abM (nmM (adM m) (adM m 125 30) (adM m 125 31)) (nmI (adM m) (adM m 125 30) (adM m 125 31)) s = g at hAB hBg hXg hr
        have z18 : adM m 125 18 = m 125 18 := adM_o (by omega)
        have g34 : g 125 34 = m 125 34 := by rw [hAB.1 _ _ (by omega), adM_o (by omega)]
        have g22 : g 125 22 = m 125 22 := by rw [hAB.1 _ _ (by omega), adM_o (by omega)]
        have g137 : g 137 (m 125 18) = 0 := by have := hAB.2.2.2.1; rw [z18] at this; exact this
        have eo : m 125 34 + 1 - 1 = m 125 34 := by omega
        have hI : PI2 t n (dl + 1) (adM (m_within g 2 (m 125 18))) (i + 2) vs 2 (m 125 34 + 1) (m 125 18) 136 137 (m 125 22) [] := by
          refine ⟨BI_within hBg g34, ⟨by omega, by omega, ?_, ?_, ?_, ?_, by omega⟩, ?_, ?_, trivial, Or.inr ⟨Or.inl rfl, rfl, rfl, by omega, hB.2.2.2.1.1⟩⟩
          · rw [adM_o (by omega), within_eq g34, up_s]
          · rw [eo, adM_o (by omega), within_eq g34, up_c (by decide), up_c (by decide), up_c (by decide), up_s]
          · rw [eo, adM_o (by omega), within_eq g34, up_c (by decide), up_s]
          · rw [eo, adM_o (by omega), within_eq g34, up_c (by decide), up_c (by decide), up_s]
            rfl
          · rw [adM_o (by omega), within_eq g34, up_c (by decide), up_c (by decide), up_c (by decide), up_c (by decide), g137]
            rfl
          · rw [adM_o (by omega), within_eq g34, up_i (by decide), up_c (by decide), up_c (by decide), up_c (by decide), g22]
            show m 125 22 = m 125 22 + ((0 : Nat) : Int)
            omega
        have hAt := atom_parts (l := l) H hn (Or.inl rfl) hI (by omega) 1 4 rfl rfl
        unfold pPa
        generalize pPs (tK t n) (pT t n dl) 1 4 (i + 2) vs [] = res at hAt ⊢
        match res, hAt with
        | .inl x, hAt =>
          obtain ⟨m', r2, hF⟩ := hAt
          refine ⟨m', hr.trans r2, Flt_of hF (fun c j q => ?_)⟩
          rw [adM_o (by omega), within_eq g34, up_o (by omega), up_o (by omega), up_o (by omega), up_o (by omega), hAB.1 c j (by omega), adM_o (by omega)]
        | .inr (ps, i', vs'), hAt =>
          obtain ⟨m3, r3, hB3, q1, q2, q3, q4, q5, q6, q7⟩ := hAt
          refine ⟨m3, hr.trans r3, hB3, AP_parts (g := g) (v := (nmI (adM m) (adM m 125 30) (adM m 125 31) : Int)) (what := 2) (at_ := (tW t n (i + 1), ps)) (dd := false) q7 h34.1 hB.2.2.2.1.1 (by omega) hAB (fun x u z => hXg x u (a5 x u (nX_cg (adM_o (by omega)) (fun j => adM_o (by omega)) (fun j => adM_o (by omega)) z))) (hXg _ _ a1) q1 q2 q3 q4 q5 q6⟩
      · rw [if_neg h3]
        obtain ⟨m', hw, hF⟩ := ba_f3 (l := l) H hn hB hs h2 (by omega) h3 (by
          by_cases z : s = 1
          · exact Or.inr (fun y => h3 (hx z h2 y))
          · exact Or.inl z)
        exact ⟨m', hp _ hw, hF⟩
    · rw [if_neg h2]
      obtain ⟨m', hw, hF⟩ := ba_f1 (s := s) (l := l) H hn hB h1 h2
      exact ⟨m', hp _ hw, hF⟩
/-- the frame of a rule (1), or of not (3), on top -/
def Fr (m : PM) (o what cnt : Int) : Prop := 1 ≤ o ∧ o ≤ 9 ∧ m 125 34 = o ∧ m 143 (o - 1) = what ∧ m 144 (o - 1) = cnt ∧ 0 ≤ cnt ∧ (what = 1 ∧ cnt ≤ 9 ∨ what = 3 ∧ cnt ≤ 1)
theorem part_a (H : RS μ) {m m' : PM} {i : Nat} {vs : List (List Int)} {o what cnt s : Int} (hB : BI t n m i vs) (hF : Fr m o what cnt) (h2 : ¬ tK t n i = 2) (hc : cnt < if what = 1 then 9 else 1) (hs : s = if what = 3 then 2 else if cnt = 0 then 0 else 1) (hw : ∀ d, Wp (d + 5) 174 (0, [some (.ref 125), some (.int (zI s))], [], sA μ (up m 144 (o - 1) (cnt + 1)) l) (pV (fun μ' => μ' = sA μ m' l) noX)) : Rch μ l m m' := by
  obtain ⟨h1, h2', h3, h4, h5, h6, h7⟩ := hF
  have hR := tK_R t n i
  rw [← hB.2.1.1] at hR
  have h28 : ¬ m 125 28 = 2 := by rw [hB.2.1.1]; exact h2
  refine rch_part H hB.2.2.2.2.2 (by omega) (fun d => ?_)
  have h64 : Wp (d + 7) 171 (64, [some (.ref 125), some (.int (zI (o - 1))), some (.int (zI what))], [], sA μ m l) (pV (fun μ' => μ' = sA μ m' l) noX) := by
    refine R171_64 (d := d + 1) H ⟨by omega, by omega, ⟨fun _ => ⟨by omega, trivial⟩, fun _ => trivial⟩, ?_⟩
    rw [h5]
    rintro m1 rfl v2 e2
    have e2' : v2 = s := by
      rw [e2, hs]
      by_cases q : what = 3
      · rw [if_neg (fun z => z q), if_pos q]
      · rw [if_pos q, if_neg q]
        by_cases q2 : cnt = 0
        · rw [if_neg (fun z => z (by omega)), if_pos q2]
        · rw [if_pos (by omega), if_neg q2]
    rw [e2']
    refine ⟨_, _, hw (d + 1), fun μ' hp => ?_, fun _ _ z => z.elim⟩
    have hp' : μ' = sA μ m' l := hp
    rw [hp']
    exact R171_102 H rfl
  refine R171_0 (d := d + 1) H ⟨by omega, hR, fun _ => ?_, fun z => absurd h28 z⟩
  rw [h3, h4, h5]
  rintro v1 rfl
  refine ⟨by omega, ?_⟩
  rintro v2 rfl
  have hm : v_mostParts m v1 = if v1 = 1 then 9 else 1 := by
    unfold v_mostParts
    rcases h7 with ⟨a, _⟩ | ⟨a, _⟩ <;> (rw [a]; decide)
  refine ⟨by omega, by rw [hm]; split <;> omega, fun _ => ⟨by omega, fun _ => h64, fun z => ⟨fun y => ?_, fun _ => h64⟩⟩, fun z => ?_⟩
  · exfalso
    omega
  · exfalso
    have z' := Classical.not_not.mp z
    rw [hm] at z'
    omega
theorem part_n (H : RS μ) {m : PM} {i : Nat} {vs : List (List Int)} {o what cnt : Int} (hB : BI t n m i vs) (hF : Fr m o what cnt) (h2 : ¬ tK t n i = 2) (hc : cnt = if what = 1 then 9 else 1) : ∃ m', Rch μ l m m' ∧ Flt t n m m' i := by
  obtain ⟨h1, h2', h3, h4, h5, h6, h7⟩ := hF
  have hR := tK_R t n i
  rw [← hB.2.1.1] at hR
  have h28 : ¬ m 125 28 = 2 := by rw [hB.2.1.1]; exact h2
  refine ⟨m_fail m 1 (m 125 29), ?_, fail_Flt hB.2.2.2.2.2 hB.2.1.2.1 (fun _ _ _ => rfl)⟩
  refine rch_part H hB.2.2.2.2.2 (by omega) (fun d => ?_)
  refine R171_0 (d := d + 1) H ⟨by omega, hR, fun _ => ?_, fun z => absurd h28 z⟩
  rw [h3, h4, h5]
  rintro v1 rfl
  refine ⟨by omega, ?_⟩
  rintro v2 rfl
  have hm : v_mostParts m v1 = if v1 = 1 then 9 else 1 := by
    unfold v_mostParts
    rcases h7 with ⟨a, _⟩ | ⟨a, _⟩ <;> (rw [a]; decide)
  refine ⟨by omega, by rw [hm]; split <;> omega, fun z => absurd (by rw [hm]; exact hc) z, fun z => ⟨by rw [hB.2.2.2.2.2]; omega, ?_⟩⟩
  rintro m3 rfl
  exact rfl
theorem close_n (H : RS μ) (hn : 0 ≤ n ∧ n ≤ 2000) {m : PM} {i : Nat} {vs : List (List Int)} {o what cnt : Int} (hB : BI t n m i vs) (hF : Fr m o what cnt) (h2 : tK t n i = 2) (hc : 0 < cnt) : Rch μ l m (adM (up m 125 34 (o - 1))) := by
  have h31 := BI_31 hn.1 hB
  obtain ⟨h1, h2', h3, h4, h5, h6, h7⟩ := hF
  have hR := tK_R t n i
  rw [← hB.2.1.1] at hR
  have h28 : m 125 28 = 2 := by rw [hB.2.1.1]; exact h2
  have hTX : TX m := hB.1.2.2
  refine rch_part H hB.2.2.2.2.2 (by omega) (fun d => ?_)
  refine R171_0 (d := d + 1) H ⟨by omega, hR, fun z => absurd h28 z, fun _ => ?_⟩
  rintro v4 -
  refine ⟨fun μ' => μ' = sA μ (adM (up m 125 34 (o - 1))) l, noX, ?_, fun μ' hp => ?_, fun _ _ z => z.elim⟩
  · refine R172_0 (d := d + 2) H ?_
    rw [h3, h4, h5]
    refine ⟨by omega, by omega, ⟨fun _ => ⟨by omega, trivial⟩, fun _ => ⟨by omega, trivial⟩⟩, ?_⟩
    rintro v1 e1 v2 - v3 e3
    have e3' : ¬ v3 = 0 := by
      rw [e3, if_pos (by omega), if_neg (by omega)]
      decide
    refine ⟨fun _ => ⟨fun z => ?_, fun z => absurd (by omega) z⟩, fun z => absurd e3' z⟩
    rintro m4 rfl
    refine ⟨hTX, by rw [up_i (by decide), up_i (by decide)]; exact h31, ?_⟩
    rintro m5 rfl
    exact rfl
  · have hp' : μ' = sA μ (adM (up m 125 34 (o - 1))) l := hp
    rw [hp']
    exact R171_26 H rfl
end SIC
