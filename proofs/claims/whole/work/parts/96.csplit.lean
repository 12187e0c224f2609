/-! ===== the class's split ===== -/
/-- x is the number of the name w -/
def cX (m : PM) (a c : Nat) (x : Int) (w : List Int) : Prop := 0 ≤ x ∧ x < c ∧ cn m a x.toNat = w
/-- the first i tokens are in the rows; c names -/
def SpI (t : Int → Int) (n : Int) (m : PM) (a c i : Nat) : Prop :=
  (m 17 = t ∧ m 18 5 = n ∧ CX m) ∧ (NcI m a c ∧ (∀ j k, j < c → k < c → cn m a j = cn m a k → j = k) ∧ c ≤ 10 + nt t n i ∧ m (a + 3) c ≤ 48 + tkS t n i) ∧ m 18 3 = (i : Int) ∧ (i : Int) ≤ tkS t n i ∧ ∀ j : Nat, j < i → m 19 j = ckK (tK t n j) ∧ m 20 j = tkP t n j ∧ (isN (tK t n j) → cX m a c (m 21 j) (tW t n j))
section CSP
variable {t : Int → Int} {n : Int} {d : Nat} {Q : Option Value ⊕ Nat → am_Mem → Prop} {μ : am_Mem} {l : PM} {a : Nat}
theorem SpI_tok {m m' : PM} {c i : Nat} (ha : a = 23 ∨ a = 43) (hn : 0 ≤ n ∧ n ≤ 2000) (h : SpI t n m a c i) (hp : tkP t n i < n) (hk : ¬ isN (tK t n i)) (e : m' = apM m (ckK (tK t n i)) (tkP t n i)) : SpI t n m' a c (i + 1) := by
  obtain ⟨⟨h1, h2, h3⟩, ⟨h4, h5, h6, h7⟩, h8, h9, h10⟩ := h
  have hP := tkP_r (t := t) hn.1 i
  have hle := tk_le (t := t) (n := n) (p := tkP t n i) ⟨hP.2.1, hP.2.2⟩
  have hS : tkS t n i + 1 ≤ tkS t n (i + 1) := by
    rw [tkS_s]
    have := hle.2.2 hp
    show tkS t n i + 1 ≤ tkE t n (tkP t n i)
    omega
  have k : ∀ c i, ¬ (c = 19 ∨ c = 20 ∨ (c = 18 ∧ i = 3)) → m' c i = m c i := fun c i q => by rw [e]; exact k_apM (by omega) (by omega) (by omega)
  have hnt : nt t n i ≤ nt t n (i + 1) := by
    show nt t n i ≤ nt t n i + if isN (tK t n i) then 1 else 0
    omega
  have kcn : ∀ j, cn m' a j = cn m a j := by
    intro j
    unfold cn
    rw [show m' (a + 2) = m (a + 2) from funext fun x => k _ _ (by omega), show m' (a + 3) = m (a + 3) from funext fun x => k _ _ (by omega)]
  have e3 : m' (a + 3) = m (a + 3) := funext fun x => k _ _ (by omega)
  have e2 : m' (a + 2) = m (a + 2) := funext fun x => k _ _ (by omega)
  have e4 : m' (a + 4) = m (a + 4) := funext fun x => k _ _ (by omega)
  have ea : m' a 4 = m a 4 := k _ _ (by omega)
  have hI : NcI m' a c := by
    unfold NcI NcT at h4 ⊢
    rw [e2, e3, e4, ea]
    refine ⟨h4.1, h4.2.1, ?_⟩
    have : (fun k => (hsP (cn m' a k)).toNat) = fun k => (hsP (cn m a k)).toNat := funext fun k => by rw [kcn]
    rw [this]
    exact h4.2.2
  refine ⟨⟨?_, by rw [k _ _ (by omega)]; exact h2, CX_cg (k _ _ (by omega)) (fun j => k _ _ (by omega)) h3⟩, ⟨hI, fun j q hj hq z => h5 j q hj hq (by rw [← kcn j, ← kcn q]; exact z), by omega, by rw [e3]; omega⟩, ?_, by omega, fun j hj => ?_⟩
  · rw [← h1]
    funext x
    exact k _ _ (by omega)
  · rw [e]
    unfold apM
    rw [up_s, h8]
    omega
  · by_cases z : j = i
    · subst z
      refine ⟨?_, ?_, fun y => absurd y hk⟩
      · rw [e]
        unfold apM
        rw [up_c (by decide), up_c (by decide), h8, up_s]
      · rw [e]
        unfold apM
        rw [up_c (by decide), h8, up_s]
    · obtain ⟨q1, q2, q3⟩ := h10 j (by omega)
      have r19 : m' 19 j = m 19 j := by
        rw [e]
        unfold apM
        rw [up_c (by decide), up_c (by decide), h8, up_i (by omega)]
      have r20 : m' 20 j = m 20 j := by
        rw [e]
        unfold apM
        rw [up_c (by decide), h8, up_i (by omega), up_c (by decide)]
      have r21 : m' 21 j = m 21 j := k _ _ (by omega)
      rw [r19, r20, r21]
      refine ⟨q1, q2, fun y => ?_⟩
      obtain ⟨y1, y2, y3⟩ := q3 y
      exact ⟨y1, y2, by rw [kcn]; exact y3⟩
/-- a name's token: its number is v, the names are those of g -/
theorem SpI_nam {m g m' : PM} {c c' i : Nat} {v : Int} (ha : a = 23 ∨ a = 43) (hn : 0 ≤ n ∧ n ≤ 2000) (h : SpI t n m a c i) (hk : isN (tK t n i)) (hg : ∀ x j, ¬ ((x = a ∧ j = 4) ∨ x = a + 2 ∨ x = a + 3 ∨ x = a + 4) → g x j = m x j) (hI : NcI g a c') (hD : ∀ j k, j < c' → k < c' → cn g a j = cn g a k → j = k) (hc : c ≤ c' ∧ c' ≤ c + 1) (hfr : g (a + 3) c' ≤ m (a + 3) c + (tE t n i - tF t n i)) (hcn : ∀ j, j < c → cn g a j = cn m a j) (hv : cX g a c' v (tW t n i)) (e : m' = apM (up g 21 (i : Int) v) (tK t n i) (tkP t n i)) : SpI t n m' a c' (i + 1) := by
  obtain ⟨⟨h1, h2, h3⟩, ⟨h4, h5, h6, h7⟩, h8, h9, h10⟩ := h
  have hN := tN_r (t := t) hn.1 hk
  have hS : tkS t n (i + 1) = tE t n i := tkS_s t n i
  have g18 : g 18 3 = (i : Int) := by rw [hg _ _ (by omega)]; exact h8
  have u18 : up g 21 (i : Int) v 18 3 = (i : Int) := by rw [up_c (by decide)]; exact g18
  have k : ∀ c i, ¬ (c = 19 ∨ c = 20 ∨ c = 21 ∨ (c = 18 ∧ i = 3)) → m' c i = g c i := fun c i q => by rw [e, k_apM (by omega) (by omega) (by omega), up_c (by omega)]
  have hnt : nt t n (i + 1) = nt t n i + 1 := by
    show nt t n i + (if isN (tK t n i) then 1 else 0) = _
    rw [if_pos hk]
  have e3 : m' (a + 3) = g (a + 3) := funext fun x => k _ _ (by omega)
  have e2 : m' (a + 2) = g (a + 2) := funext fun x => k _ _ (by omega)
  have e4 : m' (a + 4) = g (a + 4) := funext fun x => k _ _ (by omega)
  have ea : m' a 4 = g a 4 := k _ _ (by omega)
  have kcn : ∀ j, cn m' a j = cn g a j := by
    intro j
    unfold cn
    rw [e2, e3]
  have hI' : NcI m' a c' := by
    unfold NcI NcT at hI ⊢
    rw [e2, e3, e4, ea]
    refine ⟨hI.1, hI.2.1, ?_⟩
    have : (fun k => (hsP (cn m' a k)).toNat) = fun k => (hsP (cn g a k)).toNat := funext fun k => by rw [kcn]
    rw [this]
    exact hI.2.2
  refine ⟨⟨?_, by rw [k _ _ (by omega), hg _ _ (by omega)]; exact h2, CX_cg (by rw [k _ _ (by omega), hg _ _ (by omega)]) (fun j => by rw [k _ _ (by omega), hg _ _ (by omega)]) h3⟩, ⟨hI', fun j q hj hq z => hD j q hj hq (by rw [← kcn j, ← kcn q]; exact z), by omega, by rw [e3, hS]; omega⟩, ?_, by rw [hS]; omega, fun j hj => ?_⟩
  · rw [← h1]
    funext x
    rw [k _ _ (by omega), hg _ _ (by omega)]
  · rw [e]
    unfold apM
    rw [up_s, u18]
    omega
  · by_cases z : j = i
    · subst z
      have hck : ckK (tK t n j) = tK t n j := by
        unfold ckK
        rcases hk with y | y <;> rw [y] <;> decide
      refine ⟨?_, ?_, fun y => ?_⟩
      · rw [e, hck]
        unfold apM
        rw [up_c (by decide), up_c (by decide), u18, up_s]
      · rw [e]
        unfold apM
        rw [up_c (by decide), u18, up_s]
      · have r21 : m' 21 j = v := by rw [e, k_apM (by decide) (by decide) (by omega), up_s]
        rw [r21]
        exact ⟨hv.1, hv.2.1, by rw [kcn]; exact hv.2.2⟩
    · obtain ⟨q1, q2, q3⟩ := h10 j (by omega)
      have r19 : m' 19 j = m 19 j := by
        rw [e]
        unfold apM
        rw [up_c (by decide), up_c (by decide), u18, up_i (by omega), up_c (by decide), hg _ _ (by omega)]
      have r20 : m' 20 j = m 20 j := by
        rw [e]
        unfold apM
        rw [up_c (by decide), u18, up_i (by omega), up_c (by decide), up_c (by decide), hg _ _ (by omega)]
      have r21 : m' 21 j = m 21 j := by rw [e, k_apM (by decide) (by decide) (by omega), up_i (by omega), hg _ _ (by omega)]
      rw [r19, r20, r21]
      refine ⟨q1, q2, fun y => ?_⟩
      obtain ⟨y1, y2, y3⟩ := q3 y
      exact ⟨y1, by omega, by rw [kcn, hcn _ (by omega)]; exact y3⟩
end CSP
