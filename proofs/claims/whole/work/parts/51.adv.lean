/-! ===== the reference's advance: tokens ===== -/
/-- whether a name, or a variable, begins here -/
abbrev tkQ (t : Int → Int) (n p : Int) : Prop := ¬ nmV (sgn t n p) = 0 ∨ sgn t n p = 63 ∧ ¬ nmV (sgn t n (p + 1)) = 0
/-- where the token's name begins -/
noncomputable def tkF (t : Int → Int) (n p : Int) : Int := if n ≤ p then p else if tkQ t n p then (if sgn t n p = 63 then p + 1 else p) else p
/-- where the token ends -/
noncomputable def tkE (t : Int → Int) (n p : Int) : Int := if n ≤ p then p else if sgn t n p = 60 ∧ sgn t n (p + 1) = 61 then p + 2 else if tkQ t n p then neP t n (tkF t n p) else p + 1
/-- the token's kind: 0 the end, 1 (, 2 ), 3 a name, 4 a variable, 5 <=, 6 none -/
noncomputable def tkK (t : Int → Int) (n p : Int) : Int := if n ≤ p then 0 else if sgn t n p = 40 then 1 else if sgn t n p = 41 then 2 else if sgn t n p = 60 ∧ sgn t n (p + 1) = 61 then 5 else if tkQ t n p then (if neP t n (tkF t n p) - tkF t n p ≤ 16 then (if sgn t n p = 63 then 4 else 3) else 6) else 6
/-- the memory with the next token -/
noncomputable def adM (m : PM) : PM := up (up (up (up m 125 29 (skP (m 128) (m 125 8) (m 125 31))) 125 30 (tkF (m 128) (m 125 8) (skP (m 128) (m 125 8) (m 125 31)))) 125 31 (tkE (m 128) (m 125 8) (skP (m 128) (m 125 8) (m 125 31)))) 125 28 (tkK (m 128) (m 125 8) (skP (m 128) (m 125 8) (m 125 31)))
theorem nmV_40 : nmV 40 = 0 := by decide
theorem nmV_41 : nmV 41 = 0 := by decide
theorem nmV_60 : nmV 60 = 0 := by decide
theorem nmV_63 : nmV 63 = 0 := by decide
theorem nmV_0 : nmV 0 = 0 := by decide
section ADV
variable {d : Nat} {μ : am_Mem} {m l : PM}
theorem up3 {a b c k a' b' c' k' : Int} (h : a = a') (h2 : b = b') (h3 : c = c') (h4 : k = k') : up (up (up (up m 125 29 a) 125 30 b) 125 31 c) 125 28 k = up (up (up (up m 125 29 a') 125 30 b') 125 31 c') 125 28 k' := by
  rw [h, h2, h3, h4]
theorem up_up {c : Nat} {i v w : Int} : up (up m c i v) c i w = up m c i w := by
  funext c' i'
  simp only [up_e]
  split
  · rfl
  · rfl
theorem up_sw {c c' : Nat} {i i' v v' : Int} (h : ¬ (c = c' ∧ i = i')) : up (up m c i v) c' i' v' = up (up m c' i' v') c i v := by
  funext x y
  simp only [up_e]
  by_cases h1 : x = c' ∧ y = i'
  · rw [if_pos h1, if_neg (fun z => h ⟨z.1.symm.trans h1.1, z.2.symm.trans h1.2⟩), if_pos h1]
  · rw [if_neg h1, if_neg h1]
theorem adv_156 {Q : Option Value ⊕ Nat → am_Mem → Prop} {n p c F : Int} (H : RS μ) (T : TX m) (hn : m 125 8 = n) (hF : 0 ≤ F ∧ F ≤ n) (hc : iR c) (h : Q (.inl none) (sA μ (up (up (up m 125 30 F) 125 31 (neP (m 128) n F)) 125 28 (if neP (m 128) n F - F ≤ 16 then (if c = 63 then 4 else 3) else 6)) l)) :
    Wp (d + 3) 158 (156, [some (.ref 125), some (.int (zI p)), some (.int (zI c))], [.int (zI F), .ref 125], sA μ m l) Q := by
  refine R158_156 H ?_
  intro m1 e1
  have e128 : m1 128 = m 128 := by rw [e1]; exact up_r (by decide)
  have e8 : m1 125 8 = n := by rw [e1, up_i (by decide)]; exact hn
  have T1 : TX m1 := TX_cg (by rw [e8, hn]) (fun i => by rw [e128]) T
  have hr := neP_r T1 (p := F) (by rw [e8]; exact hF)
  have h2 := T.2.1
  refine ⟨T, by rw [e8]; exact hF, ?_⟩
  intro v2 e2
  have e2' : v2 = neP (m 128) n F := by rw [e2, e128, e8]
  rw [← e2] at hr
  refine ⟨by omega, ⟨fun _ => ⟨hc, trivial⟩, fun _ => trivial⟩, ?_⟩
  intro m3 e3 v4 e4 m5 e5
  rw [e5, e4, e3, e1, e2']
  have e6 : (if neP (m 128) n F - F ≤ 16 then if ¬ c = 63 then (3 : Int) else 4 else 6) = (if neP (m 128) n F - F ≤ 16 then (if c = 63 then (4 : Int) else 3) else 6) := by
    by_cases q : c = 63
    · simp [q]
    · simp [q]
  rw [e6]
  exact h
theorem c_advance (H : RS μ) (T : TX m) (g : 0 ≤ m 125 31 ∧ m 125 31 ≤ m 125 8) : Wp (d + 3) 158 (0, [some (.ref 125), none, none], [], sA μ m l) (pV (fun μ' => μ' = sA μ (adM m) l) noX) := by
  have hs := skP_r T g
  have h2 := T.2.1
  refine R158_0 H ⟨T, g, ?_⟩
  intro p ep
  rw [← ep] at hs
  intro m2 e2
  have e128 : m2 128 = m 128 := by rw [e2, up_r (by decide), up_r (by decide), up_r (by decide)]
  have e8 : m2 125 8 = m 125 8 := by rw [e2, up_i (by decide), up_i (by decide), up_i (by decide)]
  have T2 : TX m2 := TX_cg e8 (fun i => by rw [e128]) T
  generalize hn : m 125 8 = n at *
  generalize ht : m 128 = t at *
  refine ⟨by omega, ?_⟩
  intro c ec
  rw [e128, e8] at ec
  have hcR : iR c := by
    have := sgn_R T2 p
    rw [e128, e8, ← ec] at this
    exact this
  refine ⟨by omega, fun hlt => ?_, fun hge => ?_⟩
  · have hnp : ¬ n ≤ p := by omega
    have hm : ∀ F E K, F = tkF t n p → E = tkE t n p → K = tkK t n p → up (up (up (up m 125 29 p) 125 30 F) 125 31 E) 125 28 K = adM m := by
      intro F E K hF hE hK
      unfold adM
      rw [hn, ht, ← ep, hF, hE, hK]
    have hq : ∀ F, (tkQ t n p) → F = tkF t n p → 0 ≤ F ∧ F ≤ n → ¬ (c = 60 ∧ sgn t n (p + 1) = 61) → ¬ c = 40 → ¬ c = 41 → Wp (d + 3) 158 (156, [some (.ref 125), some (.int (zI p)), some (.int (zI c))], [.int (zI F), .ref 125], sA μ m2 l) (pV (fun μ' => μ' = sA μ (adM m) l) noX) := by
      intro F hQ hF hr h60 h40 h41
      refine adv_156 H T2 e8 hr hcR ?_
      show _ = _
      have : up (up (up m2 125 30 F) 125 31 (neP (m2 128) n F)) 125 28 (if neP (m2 128) n F - F ≤ 16 then (if c = 63 then 4 else 3) else 6) = adM m := by
        rw [e128, e2]
        rw [up_sw (c := 125) (i := 31) (c' := 125) (i' := 30) (by decide), up_up, up_up]
        refine hm _ _ _ hF ?_ ?_
        · unfold tkE
          rw [if_neg hnp, if_neg (show ¬ (sgn t n p = 60 ∧ sgn t n (p + 1) = 61) by rw [← ec]; exact h60), if_pos hQ, hF]
        · unfold tkK
          rw [if_neg hnp, if_neg (show ¬ sgn t n p = 40 by rw [← ec]; exact h40), if_neg (show ¬ sgn t n p = 41 by rw [← ec]; exact h41), if_neg (show ¬ (sgn t n p = 60 ∧ sgn t n (p + 1) = 61) by rw [← ec]; exact h60), if_pos hQ, hF, ec]
      rw [this]
    have hbad : ¬ tkQ t n p → ¬ (c = 60 ∧ sgn t n (p + 1) = 61) → ¬ c = 40 → ¬ c = 41 → up m2 125 28 6 = adM m := by
      intro hQ h60 h40 h41
      rw [e2]
      refine hm _ _ _ ?_ ?_ ?_
      · unfold tkF
        rw [if_neg hnp, if_neg hQ]
      · unfold tkE
        rw [if_neg hnp, if_neg (show ¬ (sgn t n p = 60 ∧ sgn t n (p + 1) = 61) by rw [← ec]; exact h60), if_neg hQ]
      · unfold tkK
        rw [if_neg hnp, if_neg (show ¬ sgn t n p = 40 by rw [← ec]; exact h40), if_neg (show ¬ sgn t n p = 41 by rw [← ec]; exact h41), if_neg (show ¬ (sgn t n p = 60 ∧ sgn t n (p + 1) = 61) by rw [← ec]; exact h60), if_neg hQ]
    have h116 : ¬ (c = 60 ∧ sgn t n (p + 1) = 61) → ¬ c = 40 → ¬ c = 41 → Wp (d + 3) 158 (116, [some (.ref 125), some (.int (zI p)), some (.int (zI c))], [], sA μ m2 l) (pV (fun μ' => μ' = sA μ (adM m) l) noX) := by
      intro h60 h40 h41
      refine R158_116 H ⟨hcR, fun hb => ?_, fun hb => ⟨fun h63 => ?_, fun h63 => ⟨T2, by omega, ?_⟩⟩⟩
      · intro F eF
        have h63 : ¬ c = 63 := fun z => hb (by rw [z]; exact nmV_63)
        rw [if_pos h63] at eF
        have hQ : tkQ t n p := Or.inl (by rw [← ec]; exact hb)
        refine hq F hQ ?_ (by omega) h60 h40 h41
        unfold tkF
        rw [if_neg hnp, if_pos hQ, ← ec, if_neg h63, eF]
      · intro m3 e3
        show _ = _
        rw [e3, hbad ?_ h60 h40 h41]
        rintro (z | z)
        · exact z (by rw [← ec]; exact Classical.not_not.mp hb)
        · exact h63 (by rw [ec]; exact z.1)
      · intro v3 ev3
        rw [e128, e8] at ev3
        have h63' : c = 63 := Classical.not_not.mp h63
        refine ⟨fun h0 => ?_, fun h0 => ?_⟩
        · intro m4 e4
          show _ = _
          rw [e4, hbad ?_ h60 h40 h41]
          rintro (z | z)
          · exact z (by rw [← ec]; exact Classical.not_not.mp hb)
          · exact z.2 (by rw [← ev3]; exact h0)
        · intro F eF
          have hQ : tkQ t n p := Or.inr ⟨by rw [← ec]; exact h63', by rw [← ev3]; exact h0⟩
          rw [if_neg h63] at eF
          refine hq F hQ ?_ (by omega) h60 h40 h41
          unfold tkF
          rw [if_neg hnp, if_pos hQ, ← ec, if_pos h63', eF]
    have hone : ∀ K, (c = 40 ∧ K = 1 ∨ c = 41 ∧ K = 2) → up m2 125 28 K = adM m := by
      intro K hK
      have hQ : ¬ tkQ t n p := by
        rintro (z | z)
        · rw [← ec] at z
          rcases hK with ⟨h, _⟩ | ⟨h, _⟩
          · exact z (by rw [h]; exact nmV_40)
          · exact z (by rw [h]; exact nmV_41)
        · rw [← ec] at z
          omega
      have h60 : ¬ (c = 60 ∧ sgn t n (p + 1) = 61) := fun z => by omega
      rw [e2]
      refine hm _ _ _ ?_ ?_ ?_
      · unfold tkF
        rw [if_neg hnp, if_neg hQ]
      · unfold tkE
        rw [if_neg hnp, if_neg (show ¬ (sgn t n p = 60 ∧ sgn t n (p + 1) = 61) by rw [← ec]; exact h60), if_neg hQ]
      · unfold tkK
        rw [if_neg hnp]
        rcases hK with ⟨h, hk⟩ | ⟨h, hk⟩
        · rw [if_pos (show sgn t n p = 40 by rw [← ec]; exact h), hk]
        · rw [if_neg (show ¬ sgn t n p = 40 by rw [← ec]; omega), if_pos (show sgn t n p = 41 by rw [← ec]; exact h), hk]
    refine ⟨fun h40 => ?_, fun h40 => ⟨fun h41 => ⟨fun h60 => h116 (fun z => h60 z.1) h40 h41, fun h60 => ⟨by omega, ?_⟩⟩, fun h41 => ?_⟩⟩
    · intro v4 e4 m5 e5
      show _ = _
      rw [if_neg (fun z => z h40)] at e4
      rw [e5, hone v4 (Or.inl ⟨h40, e4⟩)]
    · intro v6 e6
      rw [e128, e8] at e6
      have h60' : c = 60 := Classical.not_not.mp h60
      refine ⟨fun h61 => h116 (fun z => h61 (by rw [e6]; exact z.2)) h40 h41, fun h61 => ?_⟩
      have h61' : v6 = 61 := Classical.not_not.mp h61
      intro m7 e7
      show _ = _
      have : m7 = adM m := by
        rw [e7, e2, up_sw (c := 125) (i := 28) (c' := 125) (i' := 31) (by decide), up_up]
        have hQ : ¬ tkQ t n p := by
          rintro (z | z)
          · exact z (by rw [← ec, h60']; exact nmV_60)
          · rw [← ec] at z
            omega
        have h6 : sgn t n p = 60 ∧ sgn t n (p + 1) = 61 := ⟨by rw [← ec]; exact h60', by rw [← e6]; exact h61'⟩
        refine hm _ _ _ ?_ ?_ ?_
        · unfold tkF
          rw [if_neg hnp, if_neg hQ]
        · unfold tkE
          rw [if_neg hnp, if_pos h6]
        · unfold tkK
          rw [if_neg hnp, if_neg (by omega), if_neg (by omega), if_pos h6]
      rw [this]
    · intro v8 e8' m9 e9
      show _ = _
      rw [if_pos h40] at e8'
      rw [e9, hone v8 (Or.inr ⟨Classical.not_not.mp h41, e8'⟩)]
  · intro m10 e10
    show _ = _
    have hnp : n ≤ p := by omega
    have : m10 = adM m := by
      unfold adM
      rw [e10, e2, up_sw (c := 125) (i := 28) (c' := 125) (i' := 31) (by decide), up_up, hn, ht, ← ep]
      unfold tkF tkE tkK
      rw [if_pos hnp, if_pos hnp, if_pos hnp]
    rw [this]
end ADV
