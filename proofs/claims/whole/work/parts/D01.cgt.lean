/-! ===== the reading depends on the text's signs alone ===== -/
section CGT
variable {t t' : Int → Int} {n : Int}
theorem sgn_cgt (he : ∀ j, 0 ≤ j → j < n → t j = t' j) {p : Int} (hp : 0 ≤ p) : sgn t n p = sgn t' n p := by
  unfold sgn
  by_cases h : n ≤ p
  · rw [if_pos h, if_pos h]
  · rw [if_neg h, if_neg h]
    exact he p hp (by omega)
theorem skp_cgt : ∀ (k : Nat) (c : Bool) (p : Int), (∀ j, p ≤ j → j < p + k → t j = t' j) → skp t k c p = skp t' k c p := by
  intro k
  induction k with
  | zero => intro c p _; rfl
  | succ k ih =>
    intro c p h
    have e := h p (Int.le_refl _) (by omega)
    have r : ∀ b, skp t k b (p + 1) = skp t' k b (p + 1) := fun b => ih b (p + 1) (fun j h1 h2 => h j (by omega) (by omega))
    unfold skp
    rw [e, r, r]
theorem nep_cgt : ∀ (k : Nat) (p : Int), (∀ j, p ≤ j → j < p + k → t j = t' j) → nep t k p = nep t' k p := by
  intro k
  induction k with
  | zero => intro p _; rfl
  | succ k ih =>
    intro p h
    unfold nep
    rw [h p (Int.le_refl _) (by omega), ih (p + 1) (fun j h1 h2 => h j (by omega) (by omega))]
theorem skP_cgt (he : ∀ j, 0 ≤ j → j < n → t j = t' j) {p : Int} (hp : 0 ≤ p) : skP t n p = skP t' n p := skp_cgt _ _ _ fun j h1 h2 => he j (by omega) (by omega)
theorem neP_cgt (he : ∀ j, 0 ≤ j → j < n → t j = t' j) {p : Int} (hp : 0 ≤ p) : neP t n p = neP t' n p := nep_cgt _ _ fun j h1 h2 => he j (by omega) (by omega)
theorem tkF_cgt (he : ∀ j, 0 ≤ j → j < n → t j = t' j) {p : Int} (hp : 0 ≤ p) : tkF t n p = tkF t' n p := by
  unfold tkF tkQ
  rw [sgn_cgt he hp, sgn_cgt he (p := p + 1) (by omega)]
theorem tkF_0 {p : Int} (hp : 0 ≤ p) : 0 ≤ tkF t n p := by
  unfold tkF
  split
  · exact hp
  · split
    · split <;> omega
    · exact hp
theorem tkE_cgt (he : ∀ j, 0 ≤ j → j < n → t j = t' j) {p : Int} (hp : 0 ≤ p) : tkE t n p = tkE t' n p := by
  unfold tkE tkQ
  rw [neP_cgt he (tkF_0 (t := t) hp), tkF_cgt he hp, sgn_cgt he hp, sgn_cgt he (p := p + 1) (by omega)]
theorem tkK_cgt (he : ∀ j, 0 ≤ j → j < n → t j = t' j) {p : Int} (hp : 0 ≤ p) : tkK t n p = tkK t' n p := by
  unfold tkK tkQ
  rw [neP_cgt he (tkF_0 (t := t) hp), tkF_cgt he hp, sgn_cgt he hp, sgn_cgt he (p := p + 1) (by omega)]
theorem tkS_cgt (hn : 0 ≤ n) (he : ∀ j, 0 ≤ j → j < n → t j = t' j) : ∀ i, tkS t n i = tkS t' n i := by
  intro i
  induction i with
  | zero => rfl
  | succ i ih =>
    have h := tks_r (t := t) hn i
    have h1 := tkP_r (t := t) hn i
    show tkE t n (tkP t n i) = tkE t' n (skP t' n (tkS t' n i))
    rw [← ih, ← skP_cgt he h.1]
    exact tkE_cgt he h1.2.1
theorem tkP_cgt (hn : 0 ≤ n) (he : ∀ j, 0 ≤ j → j < n → t j = t' j) (i : Nat) : tkP t n i = tkP t' n i := by
  unfold tkP
  rw [← tkS_cgt hn he i]
  exact skP_cgt he (tks_r (t := t) hn i).1
theorem tK_cgt (hn : 0 ≤ n) (he : ∀ j, 0 ≤ j → j < n → t j = t' j) : tK t n = tK t' n := by
  funext i
  unfold tK
  rw [← tkP_cgt hn he i]
  exact tkK_cgt he (tkP_r (t := t) hn i).2.1
theorem sl_cgt {p : Int} {k : Nat} (h : ∀ j, p ≤ j → j < p + k → t j = t' j) : sl t p k = sl t' p k := by
  unfold sl
  refine List.map_congr_left fun j hj => ?_
  have := List.mem_range.mp hj
  exact h _ (by omega) (by omega)
theorem tW_cgt (hn : 0 ≤ n) (he : ∀ j, 0 ≤ j → j < n → t j = t' j) : tW t n = tW t' n := by
  funext i
  have h1 := tkP_r (t := t) hn i
  unfold tW tF tE
  rw [← tkP_cgt hn he i, ← tkF_cgt he h1.2.1, ← tkE_cgt he h1.2.1]
  have h2 := tk_le (t := t) (n := n) ⟨h1.2.1, h1.2.2⟩
  have h3 := tkF_0 (t := t) (n := n) h1.2.1
  exact sl_cgt fun j q1 q2 => he j (by omega) (by omega)
theorem pT_cgt (hK : tK t n = tK t' n) (hW : tW t n = tW t' n) : ∀ dl, pT t n dl = pT t' n dl := by
  intro dl
  induction dl with
  | zero =>
    funext i vs
    simp only [pT, pT0, pln, hK, hW]
  | succ dl ih =>
    funext i vs
    simp only [pT, pT0, pln, hK, hW, ih]
theorem pAt_cgt (hK : tK t n = tK t' n) (hW : tW t n = tW t' n) : pAt t n = pAt t' n := by
  funext dl i vs
  simp only [pAt, pPa, pln, hK, hW, pT_cgt hK hW]
theorem pCo_cgt (hK : tK t n = tK t' n) (hW : tW t n = tW t' n) : pCo t n = pCo t' n := by
  funext i vs
  simp only [pCo, pPa, hK, hW, pT_cgt hK hW, pAt_cgt hK hW]
theorem pCs_cgt (hK : tK t n = tK t' n) (hW : tW t n = tW t' n) : ∀ r, pCs t n r = pCs t' n r := by
  intro r
  induction r with
  | zero =>
    funext i vs acc
    simp only [pCs, hK]
  | succ r ih =>
    funext i vs acc
    simp only [pCs, hK, pCo_cgt hK hW, ih]
theorem pRu_cgt (hK : tK t n = tK t' n) (hW : tW t n = tW t' n) : pRu t n = pRu t' n := by
  funext i
  simp only [pRu, hK, pAt_cgt hK hW, pCs_cgt hK hW]
theorem pSh_cgt (hn : 0 ≤ n) (he : ∀ j, 0 ≤ j → j < n → t j = t' j) : ∀ r, pSh t n r = pSh t' n r := by
  have hK := tK_cgt hn he
  have hW := tW_cgt hn he
  intro r
  induction r with
  | zero =>
    funext i acc
    simp only [pSh, hK]
  | succ r ih =>
    funext i acc
    simp only [pSh, hK, pRu_cgt hK hW, ih]
theorem vd_cgt (hn : 0 ≤ n) (he : ∀ j, 0 ≤ j → j < n → t j = t' j) : vd t n = vd t' n := by
  unfold vd
  rw [pSh_cgt hn he 60]
  cases pSh t' n 60 0 [] with
  | inl e => exact congrArg (fun z => ((1 : Int), z)) (tkP_cgt hn he e)
  | inr rs => rfl
theorem tK_0s {i : Nat} (h : tK t n i = 0) : tK t n (i + 1) = 0 := by
  have h1 : n ≤ tkP t n i := by
    refine Classical.byContradiction fun q => ?_
    unfold tK tkK at h
    rw [if_neg q] at h
    repeat' split at h
    all_goals omega
  have e : tkS t n (i + 1) = tkP t n i := by
    rw [tkS_s]
    unfold tE tkE
    rw [if_pos h1]
  have h2 : n ≤ tkP t n (i + 1) := by
    have h3 : tkP t n (i + 1) = skP t n (tkP t n i) := by
      unfold tkP
      rw [e]
      rfl
    rw [h3]
    have e0 : (n - tkP t n i).toNat = 0 := by omega
    unfold skP
    rw [e0]
    exact h1
  unfold tK tkK
  rw [if_pos h2]
theorem LsT_0 {i : Nat} (h : tK t n i = 0) : ∀ k, tK t n (i + k) = 0 ∧ LsT t n (i + k) = LsT t n i := by
  intro k
  induction k with
  | zero => exact ⟨h, rfl⟩
  | succ k ih => exact ⟨tK_0s ih.1, by rw [← ih.2]; exact if_neg (show ¬ isN (tK t n (i + k)) by rw [ih.1]; decide)⟩
/-- the names of a text, in their order -/
noncomputable def LsE (t : Int → Int) (n : Int) : List (List Int) := @dite _ (∃ i, tK t n i = 0) (Classical.propDecidable _) (fun h => LsT t n h.choose) (fun _ => [])
theorem LsE_eq {i : Nat} (h : tK t n i = 0) : LsT t n i = LsE t n := by
  have hx : ∃ i, tK t n i = 0 := ⟨i, h⟩
  have e : LsE t n = LsT t n hx.choose := dif_pos hx
  rw [e]
  have h2 := hx.choose_spec
  generalize hx.choose = j at h2
  rcases Nat.le_total i j with q | q
  · obtain ⟨k, rfl⟩ := Nat.le.dest q
    exact (LsT_0 h k).2.symm
  · obtain ⟨k, rfl⟩ := Nat.le.dest q
    exact (LsT_0 h2 k).2
theorem LsE_cgt (hn : 0 ≤ n) (he : ∀ j, 0 ≤ j → j < n → t j = t' j) : LsE t n = LsE t' n := by
  have hK := tK_cgt hn he
  have hW := tW_cgt hn he
  have eL : ∀ i, LsT t n i = LsT t' n i := by
    intro i
    induction i with
    | zero => rfl
    | succ i ih => simp only [LsT, hK, hW, ih]
  by_cases h : ∃ i, tK t n i = 0
  · obtain ⟨i, hi⟩ := h
    rw [← LsE_eq hi, ← LsE_eq (hK ▸ hi : tK t' n i = 0), eL]
  · have h' : ¬ ∃ i, tK t' n i = 0 := by rw [← hK]; exact h
    have e1 : LsE t n = [] := dif_neg h
    have e2 : LsE t' n = [] := dif_neg h'
    rw [e1, e2]
end CGT
