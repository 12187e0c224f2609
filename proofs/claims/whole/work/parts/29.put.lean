/-! ===== put of the class ===== -/
theorem rA (μ : am_Mem) (a j : Nat) (x : Int32) (r k : Nat) : am_A (am_pA μ a j x) r k = if r = a ∧ k = j then x else am_A μ r k := rfl
theorem rL (μ : am_Mem) (a j : Nat) (x : Int64) (r k : Nat) : am_L (am_pL μ a j x) r k = if r = a ∧ k = j then x else am_L μ r k := rfl
/-- a sign that may stand in a text, or none -/
def sgOk (v : Int32) : Prop := v = 0 ∨ v = (Int8.ofInt 10).toInt32 ∨ (¬ v < (Int8.ofInt 32).toInt32 ∧ v ≤ (Int8.ofInt 126).toInt32)
/-- byte i of a number -/
def sgB (a : Int32) (i : Nat) : Int32 := ((a.toUInt32 >>> ((((Int8.ofInt 8).toInt32) * nI i).toUInt32 &&& Int32.toUInt32 31)).toInt32) &&& ((Int16.ofInt 255).toInt32)
/-- how many of the first i are signs -/
def sgN (f : Nat → Int32) : Nat → Nat
  | 0 => 0
  | i + 1 => if f i = 0 then sgN f i else sgN f i + 1
theorem sgN_le (f : Nat → Int32) : ∀ i, sgN f i ≤ i := by
  intro i
  induction i with
  | zero => exact Nat.le_refl _
  | succ i ih =>
    unfold sgN
    split <;> omega
theorem sgN_mono (f : Nat → Int32) : ∀ i j, i ≤ j → sgN f i ≤ sgN f j := by
  intro i j h
  induction j with
  | zero =>
    obtain rfl : i = 0 := by omega
    exact Nat.le_refl _
  | succ j ih =>
    by_cases e : i = j + 1
    · rw [e]; exact Nat.le_refl _
    · have := ih (by omega)
      have e2 : sgN f (j + 1) = if f j = 0 then sgN f j else sgN f j + 1 := rfl
      rw [e2]
      split <;> omega
theorem sgB_lt (a : Int32) (i : Nat) : ∃ v, v < 256 ∧ sgB a i = nI v := pk_andE _ (m := (Int16.ofInt 255).toInt32) 8 (by decide)
theorem sg_c : ∀ v, v < 256 → ((nI v).toUInt32 % 65536).toInt32.toUInt32.toUInt16.toUInt32.toInt32 = nI v := by decide +kernel
theorem i4 (i : Nat) (h : i ≤ 4) : Int32.ofInt 4 ≤ nI i ↔ i = 4 := by
  have : ∀ i, i ≤ 4 → (Int32.ofInt 4 ≤ nI i ↔ i = 4) := by
    intro i hi
    match i, hi with
    | 0, _ => decide
    | 1, _ => decide
    | 2, _ => decide
    | 3, _ => decide
    | 4, _ => decide
    | n + 5, h => omega
  exact this i h
section PUT
variable {d : Nat} {μ : am_Mem} {a : Int32} {Q : Option Value ⊕ Nat → am_Mem → Prop}
theorem put_l1 (hg : ∀ o4, (∀ j, j < 4 → sgOk (sgB a j)) → Wp d 121 (66, [some (.ref 16), some (.int a), some (.int (nI (sgN (sgB a) 4))), some (.int (nI 4)), o4], [], μ) Q) (hb : (∃ j, j < 4 ∧ ¬ sgOk (sgB a j)) → Q (.inr 0) (am_nX μ)) :
    ∀ m i o4, i + m = 4 → (∀ j, j < i → sgOk (sgB a j)) → Wp d 121 (4, [some (.ref 16), some (.int a), some (.int (nI (sgN (sgB a) i))), some (.int (nI i)), o4], [], μ) Q := by
  intro m
  induction m with
  | zero =>
    intro i o4 hi hok
    obtain rfl : i = 4 := by omega
    exact b121_4 (fun _ => hg o4 hok) (fun h => absurd ((i4 4 (by omega)).mpr rfl) h)
  | succ m ih =>
    intro i o4 hi hok
    have hi4 : i < 4 := by omega
    refine b121_4 (fun h => absurd ((i4 i (by omega)).mp h) (by omega)) (fun _ => ?_)
    have hstep : sgOk (sgB a i) → ∀ j, j < i + 1 → sgOk (sgB a j) := fun h j hj => by
      by_cases e : j = i
      · rw [e]; exact h
      · exact hok j (by omega)
    refine b121_9 (fun hz => ?_) (fun hz => ?_)
    · have hz2 : sgB a i = 0 := hz
      refine b121_60 ?_
      rw [ni1]
      have e : sgN (sgB a) (i + 1) = sgN (sgB a) i := by
        rw [sgN, if_pos hz2]
      rw [← e]
      exact ih (i + 1) _ (by omega) (hstep (Or.inl hz2))
    · have hz2 : ¬ sgB a i = 0 := hz
      have e : sgN (sgB a) (i + 1) = sgN (sgB a) i + 1 := by
        rw [sgN, if_neg hz2]
      have go : sgOk (sgB a i) → Wp d 121 (57, [some (.ref 16), some (.int a), some (.int (nI (sgN (sgB a) i))), some (.int (nI i)), some (.int (sgB a i))], [], μ) Q := by
        intro hs
        refine b121_57 (b121_60 ?_)
        rw [ni1, ni1, ← e]
        exact ih (i + 1) _ (by omega) (hstep hs)
      have no : ¬ sgOk (sgB a i) → Wp d 121 (47, [some (.ref 16), some (.int a), some (.int (nI (sgN (sgB a) i))), some (.int (nI i)), some (.int (sgB a i))], [], μ) Q := fun hs => b121_47 (hb ⟨i, hi4, hs⟩)
      refine b121_26 (fun h10 => go (Or.inr (Or.inl h10))) (fun h10 => ?_)
      refine b121_33 (fun h32 => no ?_) (fun h32 => ?_)
      · rintro (q | q | q)
        · exact hz2 q
        · exact h10 q
        · exact q.1 h32
      · refine b121_40 (fun h126 => go (Or.inr (Or.inr ⟨h32, h126⟩))) (fun h126 => no ?_)
        rintro (q | q | q)
        · exact hz2 q
        · exact h10 q
        · exact h126 q.2
/-- the memory behind i of the four -/
def putM (μ : am_Mem) (n : Nat) (f : Nat → Int32) : Nat → am_Mem
  | 0 => μ
  | i + 1 => if f i = 0 then putM μ n f i else am_pA (am_pA (putM μ n f i) 17 (n + sgN f i) (f i)) 16 1 (nI (n + sgN f i + 1))
theorem putM_kd (n : Nat) (f : Nat → Int32) : ∀ i, am_kd (putM μ n f i) = am_kd μ ∧ am_F (putM μ n f i) = am_F μ ∧ am_n (putM μ n f i) = am_n μ ∧ am_sl (putM μ n f i) = am_sl μ ∧ am_L (putM μ n f i) = am_L μ := by
  intro i
  induction i with
  | zero => exact ⟨rfl, rfl, rfl, rfl, rfl⟩
  | succ i ih =>
    unfold putM
    split
    · exact ih
    · exact ih
theorem putM_len {n : Nat} {f : Nat → Int32} (h : am_A μ 16 1 = nI n) : ∀ i, am_A (putM μ n f i) 16 1 = nI (n + sgN f i) := by
  intro i
  induction i with
  | zero => exact h
  | succ i ih =>
    have e1 : sgN f (i + 1) = if f i = 0 then sgN f i else sgN f i + 1 := rfl
    have e2 : putM μ n f (i + 1) = if f i = 0 then putM μ n f i else am_pA (am_pA (putM μ n f i) 17 (n + sgN f i) (f i)) 16 1 (nI (n + sgN f i + 1)) := rfl
    rw [e1, e2]
    by_cases hz : f i = 0
    · rw [if_pos hz, if_pos hz]
      exact ih
    · rw [if_neg hz, if_neg hz]
      rw [rA, if_pos ⟨rfl, rfl⟩]
      rfl
theorem put_l2 {n : Nat} (hk : am_kd μ 16 = (1, 11)) (hF : am_F μ 16 0 = 17) (h17 : am_kd μ 17 = (5, 2000)) (hn : am_A μ 16 1 = nI n) (hle : n + sgN (sgB a) 4 ≤ 2000) {x2 : Int32} (hq : Q (.inl (some (.int (nI (n + sgN (sgB a) 4))))) (putM μ n (sgB a) 4)) :
    ∀ m i o4, i + m = 4 → Wp d 121 (90, [some (.ref 16), some (.int a), some (.int x2), some (.int (nI i)), o4], [], putM μ n (sgB a) i) Q := by
  intro m
  induction m with
  | zero =>
    intro i o4 hi
    obtain rfl : i = 4 := by omega
    refine b121_90 (fun _ => ?_) (fun h => absurd ((i4 4 (by omega)).mpr rfl) h)
    refine b121_140 (by rw [(putM_kd n (sgB a) 4).1]; exact hk) ?_
    rw [putM_len hn]
    exact hq
  | succ m ih =>
    intro i o4 hi
    refine b121_90 (fun h => absurd ((i4 i (by omega)).mp h) (by omega)) (fun _ => ?_)
    refine b121_95 (fun hz => ?_) (fun hz => ?_)
    · have hz2 : sgB a i = 0 := hz
      refine b121_134 ?_
      rw [ni1]
      have e : putM μ n (sgB a) (i + 1) = putM μ n (sgB a) i := by rw [putM, if_pos hz2]
      rw [← e]
      exact ih (i + 1) _ (by omega)
    · have hz2 : ¬ sgB a i = 0 := hz
      obtain ⟨v, hv, ev⟩ := sgB_lt a i
      have e : putM μ n (sgB a) (i + 1) = am_pA (am_pA (putM μ n (sgB a) i) 17 (n + sgN (sgB a) i) (sgB a i)) 16 1 (nI (n + sgN (sgB a) i + 1)) := by rw [putM, if_neg hz2]
      have hsm : sgN (sgB a) i + 1 ≤ sgN (sgB a) 4 := by
        have := sgN_mono (sgB a) (i + 1) 4 (by omega)
        rw [sgN, if_neg hz2] at this
        exact this
      obtain ⟨k1, k2, -⟩ := putM_kd (μ := μ) n (sgB a) i
      have hFi : am_F (putM μ n (sgB a) i) 16 0 = 17 := by rw [k2]; exact hF
      have hLi : am_A (putM μ n (sgB a) i) 16 1 = nI (n + sgN (sgB a) i) := putM_len hn i
      have hcl : (nI (n + sgN (sgB a) i)).toNatClampNeg = n + sgN (sgB a) i := nI_clamp (by omega)
      have hk2 : am_kd (putM μ n (sgB a) i) 16 = (1, 11) := by rw [k1]; exact hk
      have hval : (((sgB a i).toUInt32 % 65536).toInt32).toUInt32.toUInt16.toUInt32.toInt32 = sgB a i := by
        rw [ev]
        exact sg_c v hv
      have hA : am_A (am_pA (putM μ n (sgB a) i) 17 (n + sgN (sgB a) i) (sgB a i)) 16 1 = nI (n + sgN (sgB a) i) := by
        rw [← hLi]
        simp [am_pA, am_u2, am_A]
      show Wp d 121 (112, [some (.ref 16), some (.int a), some (.int x2), some (.int (nI i)), some (.int (sgB a i))], [], putM μ n (sgB a) i) Q
      refine b121_112 hk2 (by rw [hFi]; decide) hk2 (by rw [hFi, k1, h17]) ?_ hk2 hk2 ?_
      · rw [hFi, k1, h17, hLi]
        exact nI_inn (by omega) (by decide)
      · refine b121_134 ?_
        rw [hFi, hLi, hcl, hval, hA, ni1, ni1, ← e]
        exact ih (i + 1) _ (by omega)
/-- put: what it answers, what it throws, what it writes -/
theorem c_put {n : Nat} (hk : am_kd μ 16 = (1, 11)) (hF : am_F μ 16 0 = 17) (h17 : am_kd μ 17 = (5, 2000)) (hn : am_A μ 16 1 = nI n) (hn2 : n ≤ 2000) :
    Wp d 121 (0, [some (.ref 16), some (.int a), none, none, none], [], μ) (pI (fun y μ' => (∀ j, j < 4 → sgOk (sgB a j)) ∧ n + sgN (sgB a) 4 ≤ 2000 ∧ y = nI (n + sgN (sgB a) 4) ∧ μ' = putM μ n (sgB a) 4)
      (fun e μ' => μ' = am_nX μ ∧ ((e = 0 ∧ ∃ j, j < 4 ∧ ¬ sgOk (sgB a j)) ∨ (e = 3 ∧ (∀ j, j < 4 → sgOk (sgB a j)) ∧ ¬ n + sgN (sgB a) 4 ≤ 2000)))) := by
  refine b121_0 (put_l1 (fun o4 hok => ?_) (fun hbad => ⟨rfl, Or.inl ⟨rfl, hbad⟩⟩) 4 0 none rfl (fun j hj => absurd hj (by omega)))
  have h4 := sgN_le (sgB a) 4
  have hc : am_A μ 16 1 + nI (sgN (sgB a) 4) ≤ (Int16.ofInt 2000).toInt32 ↔ n + sgN (sgB a) 4 ≤ 2000 := by
    rw [hn, nI_add]
    constructor
    · intro h
      rcases Nat.lt_or_ge 2000 (n + sgN (sgB a) 4) with q | q
      · exact absurd h (nI_ge q (by omega))
      · exact q
    · intro h
      exact nI_le h (by decide)
  refine b121_66 hk (fun h => ?_) (fun h => b121_78 ⟨rfl, Or.inr ⟨rfl, hok, fun q => h (hc.mpr q)⟩⟩)
  exact b121_88 (put_l2 (i := 0) hk hF h17 hn (hc.mp h) ⟨hok, hc.mp h, rfl, rfl⟩ 4 o4 rfl)
end PUT
