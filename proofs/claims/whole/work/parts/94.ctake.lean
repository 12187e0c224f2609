/-! ===== the class's take ===== -/
theorem neP_0 {t : Int → Int} {n p : Int} (h : nmV (sgn t n p) = 0) (hp : p ≤ n) : neP t n p = p := by
  unfold neP
  by_cases q : n ≤ p
  · have e : (n - p).toNat = 0 := by omega
    rw [e]
    rfl
  · obtain ⟨k, hk⟩ : ∃ k, (n - p).toNat = k + 1 := ⟨(n - p).toNat - 1, by omega⟩
    rw [hk]
    unfold sgn at h
    rw [if_neg q] at h
    unfold nep
    rw [if_pos h]
/-- the class's number of a kind of token -/
def ckK (k : Int) : Int := if k = 1 then 0 else if k = 2 then 1 else if k = 5 then 2 else if k = 0 then 5 else k
section CTA
variable {d : Nat} {Q : Option Value ⊕ Nat → am_Mem → Prop} {μ : am_Mem} {m l : PM} {a c : Nat} {p : Int}
theorem k_take (H : CS μ) (ha : a = 23 ∨ a = 43) (T : CX m) (hI : NcI m a c) (hc : c < 1024) (hpo : m (a + 3) c + (m 18 5 - p) ≤ 2058) (hct : 0 ≤ m 18 3 ∧ m 18 3 < 2001) (hp : 0 ≤ p ∧ p < m 18 5)
    (h6 : tkK (m 17) (m 18 5) p = 6 → Q (.inl (some (.int (zI (-1))))) (sA μ m l))
    (hs : ∀ k, k = tkK (m 17) (m 18 5) p → k = 1 ∨ k = 2 ∨ k = 5 → Q (.inl (some (.int (zI (tkE (m 17) (m 18 5) p))))) (sA μ (apM m (ckK k) p) l))
    (hf : ∀ k, k = tkK (m 17) (m 18 5) p → isN k → ∀ j : Nat, j < c → cn m a j = sl (m 17) (tkF (m 17) (m 18 5) p) (tkE (m 17) (m 18 5) p - tkF (m 17) (m 18 5) p).toNat → Q (.inl (some (.int (zI (tkE (m 17) (m 18 5) p))))) (sA μ (apM (up m 21 (m 18 3) j) k p) l))
    (hn : ∀ k, k = tkK (m 17) (m 18 5) p → isN k → ∀ w, w = sl (m 17) (tkF (m 17) (m 18 5) p) (tkE (m 17) (m 18 5) p - tkF (m 17) (m 18 5) p).toNat → (∀ j : Nat, j < c → ¬ cn m a j = w) → ∀ t0 mm : Nat, t0 < 2048 → mm < 2048 → hsP w = (t0 : Int) → m (a + 4) (((t0 + mm) % 2048 : Nat) : Int) = 0 → (∀ m', m' < mm → ¬ m (a + 4) (((t0 + m') % 2048 : Nat) : Int) = 0) → Q (.inl (some (.int (zI (tkE (m 17) (m 18 5) p))))) (sA μ (apM (up (caN m a w (((t0 + mm) % 2048 : Nat) : Int)) 21 (m 18 3) c) k p) l)) :
    Wp (d + 3) 106 (0, [some (.ref 18), some (.int (zI p)), some (.ref a), none, none, none], [], sA μ m l) Q := by
  have T1 := T.1
  have T2 := T.2.1
  have T3 := T.2.2 p
  have hsg : sgn (m 17) (m 18 5) p = m 17 p := if_neg (by omega)
  have hnp : ¬ m 18 5 ≤ p := by omega
  -- one sign
  have one : ∀ k v, (m 17 p = 40 ∧ k = 1 ∨ m 17 p = 41 ∧ k = 2) → v = ckK k → ∀ m2 : PM, m2 = apM m v p → Q (.inl (some (.int (zI (p + 1))))) (sA μ m2 l) := by
    intro k v hk hv m2 e2
    have hQ : ¬ tkQ (m 17) (m 18 5) p := by
      rintro (z | z)
      · rw [hsg] at z
        rcases hk with ⟨y, _⟩ | ⟨y, _⟩
        · exact z (by rw [y]; exact nmV_40)
        · exact z (by rw [y]; exact nmV_41)
      · rw [hsg] at z
        omega
    have h60 : ¬ (sgn (m 17) (m 18 5) p = 60 ∧ sgn (m 17) (m 18 5) (p + 1) = 61) := by rw [hsg]; omega
    have eK : tkK (m 17) (m 18 5) p = k := by
      unfold tkK
      rw [if_neg hnp]
      rcases hk with ⟨y, z⟩ | ⟨y, z⟩
      · rw [if_pos (show sgn (m 17) (m 18 5) p = 40 by rw [hsg]; exact y), z]
      · rw [if_neg (show ¬ sgn (m 17) (m 18 5) p = 40 by rw [hsg]; omega), if_pos (show sgn (m 17) (m 18 5) p = 41 by rw [hsg]; exact y), z]
    have eE : tkE (m 17) (m 18 5) p = p + 1 := by
      unfold tkE
      rw [if_neg hnp, if_neg h60, if_neg hQ]
    have := hs k eK.symm (by omega)
    rw [eE] at this
    rw [e2, hv]
    exact this
  refine K106_0 H ha ⟨by omega, by omega, fun q40 => ?_, fun q40 => ⟨fun q41 => ⟨fun q60 => ?_, fun q60 => ?_⟩, fun q41 => ?_⟩⟩
  · intro v1 e1
    refine ⟨hct, one 1 v1 (Or.inl ⟨q40, rfl⟩) ?_⟩
    rw [e1, if_neg (fun z => z q40)]
    decide
  · -- a name, a variable, or none
    have h60 : ¬ (sgn (m 17) (m 18 5) p = 60 ∧ sgn (m 17) (m 18 5) (p + 1) = 61) := by rw [hsg]; omega
    have eK : tkK (m 17) (m 18 5) p = if tkQ (m 17) (m 18 5) p then (if neP (m 17) (m 18 5) (tkF (m 17) (m 18 5) p) - tkF (m 17) (m 18 5) p ≤ 16 then (if sgn (m 17) (m 18 5) p = 63 then 4 else 3) else 6) else 6 := by
      unfold tkK
      rw [if_neg hnp, if_neg (show ¬ sgn (m 17) (m 18 5) p = 40 by rw [hsg]; exact q40), if_neg (show ¬ sgn (m 17) (m 18 5) p = 41 by rw [hsg]; exact q41), if_neg h60]
    intro v3 e3
    have hv3 : 0 ≤ v3 ∧ v3 ≤ m 18 5 := by
      rw [e3]
      split <;> omega
    have hv3p : p ≤ v3 := by
      rw [e3]
      split <;> omega
    refine ⟨T, hv3, ?_⟩
    intro v4 e4
    have hle : v3 ≤ v4 ∧ v4 ≤ m 18 5 := by
      have := nep_le (m 17) (m 18 5 - v3).toNat v3
      rw [e4]
      unfold neP
      omega
    -- whether a name begins at v3
    have hQi : tkQ (m 17) (m 18 5) p ↔ ¬ v4 = v3 := by
      by_cases q63 : m 17 p = 63
      · have e3' : v3 = p + 1 := by rw [e3, if_neg (fun z => z q63)]
        constructor
        · rintro (z | z)
          · exact absurd (by rw [hsg, q63]; exact nmV_63) z
          · have h1 := sg_lt z.2
            have h2 := neP_gt h1 z.2
            rw [← e3', ← e4] at h2
            omega
        · intro z
          refine Or.inr ⟨by rw [hsg]; exact q63, fun y => z ?_⟩
          rw [e4, e3', neP_0 y (by omega)]
      · have e3' : v3 = p := by rw [e3, if_pos q63]
        constructor
        · rintro (z | z)
          · have h2 := neP_gt (sg_lt z) z
            rw [← e3', ← e4] at h2
            omega
          · rw [hsg] at z
            exact absurd z.1 q63
        · intro z
          refine Or.inl (fun y => z ?_)
          rw [e4, e3', neP_0 y (by omega)]
    refine ⟨by omega, by omega, fun z => ?_, fun z => ⟨by omega, fun z16 => ?_, fun z16 => ?_⟩⟩
    · refine h6 ?_
      rw [eK, if_neg (fun y => hQi.mp y z)]
    · have hQ := hQi.mpr z
      have eF : tkF (m 17) (m 18 5) p = v3 := by
        unfold tkF
        rw [if_neg hnp, if_pos hQ, e3, hsg]
        by_cases q63 : m 17 p = 63
        · rw [if_pos q63, if_neg (fun y => y q63)]
        · rw [if_neg q63, if_pos q63]
      have eE : tkE (m 17) (m 18 5) p = v4 := by
        unfold tkE
        rw [if_neg hnp, if_neg h60, if_pos hQ, eF, e4]
      have eK2 : tkK (m 17) (m 18 5) p = if m 17 p = 63 then 4 else 3 := by
        rw [eK, if_pos hQ, eF, ← e4, if_pos z16, hsg]
      rw [eE, eF] at hf hn
      obtain ⟨len, hlen⟩ : ∃ len : Nat, v4 - v3 = (len : Int) := ⟨(v4 - v3).toNat, by omega⟩
      have elen : (v4 - v3).toNat = len := by omega
      rw [elen] at hf hn
      refine ⟨fun x μ' => ∃ y m', x = zI y ∧ μ' = sA μ m' l ∧ iR y ∧ (0 ≤ m' 18 3 ∧ m' 18 3 < 2001) ∧ m' 18 3 = m 18 3 ∧ ∀ k, k = tkK (m 17) (m 18 5) p → Q (.inl (some (.int (zI v4)))) (sA μ (apM (up m' 21 (m 18 3) y) k p) l), noX, ?_, fun x μ' hP => ?_, fun _ _ y => y.elim⟩
      · rw [hlen]
        refine k_intern (n1 := 2000) (tx := 17) (c := c) H ha (Or.inl rfl) (cK_17 H) (by omega) hI hc (by omega) T.2.2 (by omega) (fun k hk hcn => ?_) (fun hno t0 mm h0 hm ep hz hnz => ?_)
        · exact ⟨k, m, rfl, rfl, by omega, hct, rfl, fun kk ekk => hf kk ekk (by rw [ekk, eK2]; split <;> omega) k hk hcn⟩
        · have e18 : caN m a (sl (m 17) v3 len) (((t0 + mm) % 2048 : Nat) : Int) 18 3 = m 18 3 := by
            unfold caN
            rw [up_c (by omega), up_c (by omega), up_c (by omega), upL_o _ _ _ (Or.inl (by omega))]
          exact ⟨c, caN m a (sl (m 17) v3 len) (((t0 + mm) % 2048 : Nat) : Int), rfl, rfl, by omega, by rw [e18]; exact hct, e18, fun kk ekk => hn kk ekk (by rw [ekk, eK2]; split <;> omega) _ rfl hno t0 mm h0 hm ep hz hnz⟩
      · obtain ⟨y, m', rfl, rfl, hy, hct', e18, hq⟩ := hP
        refine K106_145 H ha ⟨hct, by omega, ?_⟩
        intro m1 e1 v2 e2
        have f18 : m1 18 3 = m' 18 3 := by rw [e1, up_c (by decide)]
        refine ⟨by rw [f18]; exact hct', ?_⟩
        intro m3 e3
        rw [e3, e1]
        refine hq v2 ?_
        rw [e2, eK2]
        by_cases q63 : m 17 p = 63
        · rw [if_pos q63, if_neg (fun y => y q63)]
        · rw [if_neg q63, if_pos q63]
    · refine h6 ?_
      have hQ := hQi.mpr z
      have eF : tkF (m 17) (m 18 5) p = v3 := by
        unfold tkF
        rw [if_neg hnp, if_pos hQ, e3, hsg]
        by_cases q63 : m 17 p = 63
        · rw [if_pos q63, if_neg (fun y => y q63)]
        · rw [if_neg q63, if_pos q63]
      rw [eK, if_pos hQ, eF, ← e4, if_neg z16]
  · -- <
    have q60' : m 17 p = 60 := Classical.not_not.mp q60
    have hQ : ¬ tkQ (m 17) (m 18 5) p := by
      rintro (z | z)
      · exact z (by rw [hsg, q60']; exact nmV_60)
      · rw [hsg] at z
        omega
    have no : ¬ sgn (m 17) (m 18 5) (p + 1) = 61 → tkK (m 17) (m 18 5) p = 6 := by
      intro z
      unfold tkK
      rw [if_neg hnp, if_neg (show ¬ sgn (m 17) (m 18 5) p = 40 by rw [hsg]; exact q40), if_neg (show ¬ sgn (m 17) (m 18 5) p = 41 by rw [hsg]; exact q41), if_neg (fun y => z y.2), if_neg hQ]
    refine ⟨by omega, by omega, fun z => h6 (no ?_), fun z => ⟨by omega, by have := T.2.2 (p + 1); omega, fun y => ⟨hct, ?_⟩, fun y => h6 (no ?_)⟩⟩
    · unfold sgn
      rw [if_pos z]
      decide
    · have hs1 : sgn (m 17) (m 18 5) (p + 1) = 61 := by unfold sgn; rw [if_neg z]; exact y
      intro m5 e5
      have eK : tkK (m 17) (m 18 5) p = 5 := by
        unfold tkK
        rw [if_neg hnp, if_neg (show ¬ sgn (m 17) (m 18 5) p = 40 by rw [hsg]; exact q40), if_neg (show ¬ sgn (m 17) (m 18 5) p = 41 by rw [hsg]; exact q41), if_pos ⟨by rw [hsg]; exact q60', hs1⟩]
      have eE : tkE (m 17) (m 18 5) p = p + 2 := by
        unfold tkE
        rw [if_neg hnp, if_pos ⟨by rw [hsg]; exact q60', hs1⟩]
      have := hs 5 eK.symm (Or.inr (Or.inr rfl))
      rw [eE] at this
      rw [e5]
      exact this
    · unfold sgn
      rw [if_neg z]
      exact y
  · intro v6 e6
    refine ⟨hct, one 2 v6 (Or.inr ⟨Classical.not_not.mp q41, rfl⟩) ?_⟩
    rw [e6, if_pos q40]
    decide
end CTA
