/-! ===== at the start; every call; the claim ===== -/
section LGO
variable {L i : Nat} {xs : Nat → Int32} {ν : am_Mem}
theorem ts_kd {n sl : Nat} {T : List mC} {c : Nat} (hc : 16 ≤ c) : am_kd (mT L xs n T sl) c = mTk T (c - 16) := by
  show (if c < 16 then _ else mTk T (c - 16)) = _
  rw [if_neg (by omega)]
theorem ts_F {n sl : Nat} {T : List mC} {c f : Nat} (hc : 16 ≤ c) : am_F (mT L xs n T sl) c f = mTf T (c - 16) f := by
  show (if c < 16 then 15 else mTf T (c - 16) f) = _
  rw [if_neg (by omega)]
theorem mg_R {l : List Int32} (h : ∀ v, v ∈ l → sgR v) : ∀ j, sgR (mg 0 l j) := by
  induction l with
  | nil => intro j; exact (show sgR 0 from ⟨by decide, by decide⟩)
  | cons a l ih =>
    intro j
    cases j with
    | zero => exact h a List.mem_cons_self
    | succ j => exact ih (fun v hv => h v (List.mem_cons_of_mem _ hv)) j
theorem tf_kd : ∀ i, i < 109 → mTk TF i = cKd.getD i (0, 0) := by decide +kernel
theorem tf_F : ∀ j, j < 99 → 16 ≤ (cFl.getD j (0, 0, 0)).1 ∧ mTf TF ((cFl.getD j (0, 0, 0)).1 - 16) (cFl.getD j (0, 0, 0)).2.1 = (cFl.getD j (0, 0, 0)).2.2 := by decide +kernel
theorem tf_rk : ∀ i, i < 60 → mTk TF (109 + i) = rKd.getD i (0, 0) := by decide +kernel
theorem tf_rF : ∀ f, f < 94 → mTf TF 109 f = rFd.getD f 15 := by decide +kernel
abbrev ν0 (L : Nat) (xs : Nat → Int32) : am_Mem := mT L xs 186 TF 2475969
/-- the ints at the start -/
abbrev m0S (L : Nat) (xs : Nat → Int32) : PM := fun c j => (am_A (ν0 L xs) c j.toNat).toInt
theorem s_CS : CS (ν0 L xs) := ⟨fun i hi => by rw [ts_kd (by omega), show 16 + i - 16 = i by omega]; exact tf_kd i hi, fun j hj => by
  obtain ⟨h1, h2⟩ := tf_F j hj
  rw [ts_F h1]
  exact h2⟩
theorem s_RS : RS (ν0 L xs) := ⟨fun i hi => by rw [ts_kd (by omega), show 125 + i - 16 = 109 + i by omega]; exact tf_rk i hi, fun f hf => by rw [ts_F (by decide)]; exact tf_rF f hf⟩
theorem s_Sh : ShX 22 (ν0 L xs) 85 108 := ⟨⟨s_CS, ⟨⟨rfl, rfl, rfl, rfl, rfl, rfl, rfl, rfl⟩, rfl, rfl, rfl, rfl, rfl, rfl, rfl, rfl⟩, Or.inl rfl, ⟨by show 185 ≤ 186; decide, by show 85 + 8 ≤ 186; decide⟩, rfl, rfl⟩, ⟨rfl, rfl⟩, ⟨Or.inl rfl, by decide, by show 108 < 186; decide⟩, Or.inl rfl, by show 186 ≤ 186; decide⟩
theorem s_fix : ∀ j : Nat, j < 8 → m0S L xs 1 (j : Int) = fixV.getD j 0 := by
  have h : ∀ j : Nat, j < 8 → (am_fixL.getD j 0).toInt = fixV.getD j 0 := by decide
  exact fun j hj => h j hj
theorem s_HC {N : Nat} {h : Nat → Nat} {S : Nat → Nat} (hS : ∀ i, S i = 0) : HC N S h 0 := ⟨fun k hk => absurd hk (Nat.not_lt_zero k), fun i _ => by rw [hS]; exact Nat.le_refl _, fun i j _ _ _ hn => absurd (hS i) hn⟩
theorem s_CtI : CtI 85 (tN 85) (tS 85) (m0S L xs) 0 := ⟨rfl, Nat.zero_le _, fun t ht => absurd ht (Nat.not_lt_zero t), fun i _ => ⟨(by decide : (0 : Int) ≤ 0), (by decide : (0 : Int) ≤ 0)⟩, s_HC (fun i => rfl)⟩
theorem s_FtI : FtI (fun _ => 0) (m0S L xs) 0 := ⟨rfl, Nat.zero_le _, fun t ht => absurd ht (Nat.not_lt_zero t), fun r _ _ => ⟨rfl, fun z => absurd (show (0 : Int) < 0 from z) (by decide)⟩, fun i _ => ⟨(by decide : (0 : Int) ≤ 0), (by decide : (0 : Int) ≤ 0)⟩, s_HC (fun i => rfl)⟩
theorem s_wrd : ∀ v, v ∈ mWrd.2.2.1 → sgR v := by decide +kernel
theorem s_wrdL : ∀ j : Nat, j < 58 → (mg 0 mWrd.2.2.1 j).toInt = cwL.getD j 0 := by decide +kernel
theorem s_CNm23 : CNm (m0S L xs) 23 := ⟨rfl, fun j => ⟨(by decide : (0 : Int) ≤ 0), (by decide : (0 : Int) ≤ 127)⟩, fun j hj => s_wrdL j hj, fun j => mg_R s_wrd j.toNat⟩
theorem s_CNm43 : CNm (m0S L xs) 43 := ⟨rfl, fun j => ⟨(by decide : (0 : Int) ≤ 0), (by decide : (0 : Int) ≤ 127)⟩, fun j hj => s_wrdL j hj, fun j => mg_R s_wrd j.toNat⟩
theorem s_0 : (0 : Int) ≤ 0 ∧ (0 : Int) ≤ 127 := ⟨by decide, by decide⟩
theorem j_begin : JtP 0 (ν0 L xs) := by
  refine ⟨start_text, fun j => ⟨s_0, s_0⟩, ν0 L xs, m0S L xs, fun c i => (am_L (ν0 L xs) c i.toNat).toInt, 22, 85, 108, sA_self _, ⟨Or.inl rfl, s_Sh, ⟨rfl, rfl⟩, s_RS, ⟨?_, ?_⟩, ⟨rfl, s_fix⟩, rfl, ⟨s_CNm23, s_CNm43⟩, ⟨rfl, fun j => ⟨(by decide : (0 : Int) ≤ 0), (by decide : (0 : Int) ≤ 32767)⟩⟩, ⟨(by decide : (0 : Int) ≤ 0), (by decide : (0 : Int) ≤ 2000)⟩, fun j => s_0, fun j => s_0⟩, Or.inl ⟨⟨rfl, rfl, rfl⟩, ⟨rfl, rfl, rfl⟩, ⟨rfl, rfl⟩, ⟨0, s_CtI⟩, fun _ => 0, 0, s_FtI⟩⟩
  · show 186 + (if (85 : Nat) = 85 then 8 else 0) + (if (108 : Nat) = 108 then 1 else 0) ≤ 195 + 0
    decide
  · show 2475969 + (if (85 : Nat) = 85 then 712992 else 0) + (if (108 : Nat) = 108 then 343140 else 0) ≤ 3532101 + 6 * 0
    decide
theorem j_room (hJ : JtP i ν) (hi : i ≤ 512) : am_n ν ≤ 61040 ∧ am_sl ν ≤ 8913034 := by
  obtain ⟨_, _, μ, m, l, s, q, e, rfl, hc, _⟩ := hJ
  obtain ⟨h1, h2⟩ := hc.2.2.2.2.1
  unfold nN at h1
  unfold sN at h2
  exact ⟨show am_n μ ≤ 61040 by omega, show am_sl μ ≤ 8913034 by omega⟩
theorem j_case (hL : L ≤ 2048) (hi : 4 * i + 4 ≤ L) (hF : lawF L xs ν) (hJ : JtP i ν) : ∀ c, lawC L xs 45 i c (JtP (i + 1)) ν := by
  intro c
  by_cases c2 : c = 2
  · subst c2
    exact j_read hL hi hF hJ
  · obtain ⟨hT, hR, μ, m, l, s, q, e, rfl, hc, hz | ⟨rs, X, W, W', N0, st, xp, hs⟩⟩ := id hJ
    · exact jz_case (d := 43) hF hi hL ⟨hT, hR, μ, m, l, s, q, e, rfl, hc, hz⟩ c c2
    · have hb : JsB L xs i μ m l s q e rs X W W' N0 st xp := ⟨hF, hT, hR, hc, hs⟩
      have fT : ∀ μ', TxP (sA μ m l) μ' → JtP (i + 1) μ' := fun μ' h => j_text hJ h
      have h7 : am_A (sA μ m l) 16 2 = am_A (sA μ m l) 125 3 := by
        show zI (m 16 2) = zI (m 125 3)
        rw [hc.2.2.2.2.2.2.1]
      match c, c2 with
      | 0, _ => exact lawC_mono fT 0 (tx_put (d := 44) hF hi hL hT)
      | 1, _ => exact lawC_mono fT 1 (tx_end (d := 44) hF hi hL hT)
      | 2, h => exact absurd rfl h
      | 3, _ => exact lawC_mono fT 3 (tx_fault hF h7 hT)
      | 4, _ => exact jc_sheet hL hi hb
      | 5, _ => exact jc_start hL hi hb
      | 6, _ => exact jc_moves hL hi hb
      | 7, _ => exact jc_terminal hL hi hb
      | 8, _ => exact jc_goal hL hi hb
      | 9, _ => exact jc_play hL hi hb
      | 10, _ => exact jc_sign hL hi hb
      | 11, _ => exact jc_explore hL hi hb
      | 12, _ => exact jc_defect hL hi hb
      | 13, _ => exact jc_state hL hi hb
      | 14, _ => exact jc_next hL hi hb
      | 15, _ => exact jc_value hL hi hb
      | 16, _ => exact jc_best hL hi hb
      | n + 17, _ => exact j_mono hJ
end LGO
theorem j_goal : am_Goal := goal_of 40 (by decide) (fun _ _ i μ => JtP i μ) (fun L xs _ => j_begin) (fun L xs i μ hL hi hJ => j_room hJ (by omega)) (fun L xs hL i μ hi hF hJ c _ _ => j_case hL hi hF hJ c)
