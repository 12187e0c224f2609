/-! ===== the class's split once more, with the words kept (as parts 96, 97, 99a) ===== -/
/-- the first ten names are the words -/
def wdC : List (List Int) := [wdL.getD 2 [], wdL.getD 3 [], wdL.getD 4 [], wdL.getD 7 [], wdL.getD 5 [], wdL.getD 6 [], wdL.getD 8 [], wdL.getD 9 [], wdL.getD 0 [], wdL.getD 1 []]
def W10 (m : PM) (a c : Nat) : Prop := 10 ≤ c ∧ (∀ k, k < 10 → cn m a k = wdC.getD k []) ∧ m (a + 3) 0 = 0
/-- the first i tokens are in the rows; c names -/
def SpJ (t : Int → Int) (n : Int) (m : PM) (a c i : Nat) : Prop :=
  (m 17 = t ∧ m 18 5 = n ∧ CX m) ∧ (NcI m a c ∧ (∀ j k, j < c → k < c → cn m a j = cn m a k → j = k) ∧ c ≤ 10 + nt t n i ∧ m (a + 3) c ≤ 48 + tkS t n i ∧ W10 m a c) ∧ m 18 3 = (i : Int) ∧ (i : Int) ≤ tkS t n i ∧ ∀ j : Nat, j < i → m 19 j = ckK (tK t n j) ∧ m 20 j = tkP t n j ∧ (isN (tK t n j) → cX m a c (m 21 j) (tW t n j))
section CSP
variable {t : Int → Int} {n : Int} {d : Nat} {Q : Option Value ⊕ Nat → am_Mem → Prop} {μ : am_Mem} {l : PM} {a : Nat}
theorem SpJ_tok {m m' : PM} {c i : Nat} (ha : a = 23 ∨ a = 43) (hn : 0 ≤ n ∧ n ≤ 2000) (h : SpJ t n m a c i) (hp : tkP t n i < n) (hk : ¬ isN (tK t n i)) (e : m' = apM m (ckK (tK t n i)) (tkP t n i)) : SpJ t n m' a c (i + 1) := by
  obtain ⟨⟨h1, h2, h3⟩, ⟨h4, h5, h6, h7⟩, h8, h9, h10⟩ := h
  have hP := tkP_r (t := t) hn.1 i
  have hle := tk_le (t := t) (n := n) (p := tkP t n i) ⟨hP.2.1, hP.2.2⟩
  have hS : tkS t n i + 1 ≤ tkS t n (i + 1) := by
    rw [tkS_s]
    have := hle.2.2 hp
    show tkS t n i + 1 ≤ tkE t n (tkP t n i)
    omega
  have k : ∀ c i, ¬ (c = 19 ∨ c = 20 ∨ (c = 18 ∧ i = 3)) → m' c i = m c i := fun c i q => by rw [e]; exact k_apM (by omega) (by omega) (by omega)
  have hnt : nt t n i ≤ nt t n (i + 1) := by
    show nt t n i ≤ nt t n i + if isN (tK t n i) then 1 else 0
    omega
  have kcn : ∀ j, cn m' a j = cn m a j := by
    intro j
    unfold cn
    rw [show m' (a + 2) = m (a + 2) from funext fun x => k _ _ (by omega), show m' (a + 3) = m (a + 3) from funext fun x => k _ _ (by omega)]
  have e3 : m' (a + 3) = m (a + 3) := funext fun x => k _ _ (by omega)
  have e2 : m' (a + 2) = m (a + 2) := funext fun x => k _ _ (by omega)
  have e4 : m' (a + 4) = m (a + 4) := funext fun x => k _ _ (by omega)
  have ea : m' a 4 = m a 4 := k _ _ (by omega)
  have hI : NcI m' a c := by
    unfold NcI NcT at h4 ⊢
    rw [e2, e3, e4, ea]
    refine ⟨h4.1, h4.2.1, ?_⟩
    have : (fun k => (hsP (cn m' a k)).toNat) = fun k => (hsP (cn m a k)).toNat := funext fun k => by rw [kcn]
    rw [this]
    exact h4.2.2
  refine ⟨⟨?_, by rw [k _ _ (by omega)]; exact h2, CX_cg (k _ _ (by omega)) (fun j => k _ _ (by omega)) h3⟩, ⟨hI, fun j q hj hq z => h5 j q hj hq (by rw [← kcn j, ← kcn q]; exact z), by omega, by rw [e3]; omega, ⟨h7.2.1, fun k hk => by rw [kcn]; exact h7.2.2.1 k hk, by rw [e3]; exact h7.2.2.2⟩⟩, ?_, by omega, fun j hj => ?_⟩
  · rw [← h1]
    funext x
    exact k _ _ (by omega)
  · rw [e]
    unfold apM
    rw [up_s, h8]
    omega
  · by_cases z : j = i
    · subst z
      refine ⟨?_, ?_, fun y => absurd y hk⟩
      · rw [e]
        unfold apM
        rw [up_c (by decide), up_c (by decide), h8, up_s]
      · rw [e]
        unfold apM
        rw [up_c (by decide), h8, up_s]
    · obtain ⟨q1, q2, q3⟩ := h10 j (by omega)
      have r19 : m' 19 j = m 19 j := by
        rw [e]
        unfold apM
        rw [up_c (by decide), up_c (by decide), h8, up_i (by omega)]
      have r20 : m' 20 j = m 20 j := by
        rw [e]
        unfold apM
        rw [up_c (by decide), h8, up_i (by omega), up_c (by decide)]
      have r21 : m' 21 j = m 21 j := k _ _ (by omega)
      rw [r19, r20, r21]
      refine ⟨q1, q2, fun y => ?_⟩
      obtain ⟨y1, y2, y3⟩ := q3 y
      exact ⟨y1, y2, by rw [kcn]; exact y3⟩
/-- a name's token: its number is v, the names are those of g -/
theorem SpJ_nam {m g m' : PM} {c c' i : Nat} {v : Int} (ha : a = 23 ∨ a = 43) (hn : 0 ≤ n ∧ n ≤ 2000) (h : SpJ t n m a c i) (hk : isN (tK t n i)) (hg : ∀ x j, ¬ ((x = a ∧ j = 4) ∨ x = a + 2 ∨ x = a + 3 ∨ x = a + 4) → g x j = m x j) (hI : NcI g a c') (hD : ∀ j k, j < c' → k < c' → cn g a j = cn g a k → j = k) (hc : c ≤ c' ∧ c' ≤ c + 1) (hfr : g (a + 3) c' ≤ m (a + 3) c + (tE t n i - tF t n i)) (hcn : ∀ j, j < c → cn g a j = cn m a j) (hz0 : g (a + 3) 0 = m (a + 3) 0) (hv : cX g a c' v (tW t n i)) (e : m' = apM (up g 21 (i : Int) v) (tK t n i) (tkP t n i)) : SpJ t n m' a c' (i + 1) := by
  obtain ⟨⟨h1, h2, h3⟩, ⟨h4, h5, h6, h7⟩, h8, h9, h10⟩ := h
  have hN := tN_r (t := t) hn.1 hk
  have hS : tkS t n (i + 1) = tE t n i := tkS_s t n i
  have g18 : g 18 3 = (i : Int) := by rw [hg _ _ (by omega)]; exact h8
  have u18 : up g 21 (i : Int) v 18 3 = (i : Int) := by rw [up_c (by decide)]; exact g18
  have k : ∀ c i, ¬ (c = 19 ∨ c = 20 ∨ c = 21 ∨ (c = 18 ∧ i = 3)) → m' c i = g c i := fun c i q => by rw [e, k_apM (by omega) (by omega) (by omega), up_c (by omega)]
  have hnt : nt t n (i + 1) = nt t n i + 1 := by
    show nt t n i + (if isN (tK t n i) then 1 else 0) = _
    rw [if_pos hk]
  have e3 : m' (a + 3) = g (a + 3) := funext fun x => k _ _ (by omega)
  have e2 : m' (a + 2) = g (a + 2) := funext fun x => k _ _ (by omega)
  have e4 : m' (a + 4) = g (a + 4) := funext fun x => k _ _ (by omega)
  have ea : m' a 4 = g a 4 := k _ _ (by omega)
  have kcn : ∀ j, cn m' a j = cn g a j := by
    intro j
    unfold cn
    rw [e2, e3]
  have hI' : NcI m' a c' := by
    unfold NcI NcT at hI ⊢
    rw [e2, e3, e4, ea]
    refine ⟨hI.1, hI.2.1, ?_⟩
    have : (fun k => (hsP (cn m' a k)).toNat) = fun k => (hsP (cn g a k)).toNat := funext fun k => by rw [kcn]
    rw [this]
    exact hI.2.2
  refine ⟨⟨?_, by rw [k _ _ (by omega), hg _ _ (by omega)]; exact h2, CX_cg (by rw [k _ _ (by omega), hg _ _ (by omega)]) (fun j => by rw [k _ _ (by omega), hg _ _ (by omega)]) h3⟩, ⟨hI', fun j q hj hq z => hD j q hj hq (by rw [← kcn j, ← kcn q]; exact z), by omega, by rw [e3, hS]; omega, ⟨by have := h7.2.1; omega, fun k hk => by rw [kcn, hcn k (by have := h7.2.1; omega)]; exact h7.2.2.1 k hk, by rw [e3, hz0]; exact h7.2.2.2⟩⟩, ?_, by rw [hS]; omega, fun j hj => ?_⟩
  · rw [← h1]
    funext x
    rw [k _ _ (by omega), hg _ _ (by omega)]
  · rw [e]
    unfold apM
    rw [up_s, u18]
    omega
  · by_cases z : j = i
    · subst z
      have hck : ckK (tK t n j) = tK t n j := by
        unfold ckK
        rcases hk with y | y <;> rw [y] <;> decide
      refine ⟨?_, ?_, fun y => ?_⟩
      · rw [e, hck]
        unfold apM
        rw [up_c (by decide), up_c (by decide), u18, up_s]
      · rw [e]
        unfold apM
        rw [up_c (by decide), u18, up_s]
      · have r21 : m' 21 j = v := by rw [e, k_apM (by decide) (by decide) (by omega), up_s]
        rw [r21]
        exact ⟨hv.1, hv.2.1, by rw [kcn]; exact hv.2.2⟩
    · obtain ⟨q1, q2, q3⟩ := h10 j (by omega)
      have r19 : m' 19 j = m 19 j := by
        rw [e]
        unfold apM
        rw [up_c (by decide), up_c (by decide), u18, up_i (by omega), up_c (by decide), hg _ _ (by omega)]
      have r20 : m' 20 j = m 20 j := by
        rw [e]
        unfold apM
        rw [up_c (by decide), u18, up_i (by omega), up_c (by decide), up_c (by decide), hg _ _ (by omega)]
      have r21 : m' 21 j = m 21 j := by rw [e, k_apM (by decide) (by decide) (by omega), up_i (by omega), hg _ _ (by omega)]
      rw [r19, r20, r21]
      refine ⟨q1, q2, fun y => ?_⟩
      obtain ⟨y1, y2, y3⟩ := q3 y
      exact ⟨y1, by omega, by rw [kcn, hcn _ (by omega)]; exact y3⟩
end CSP
section CS2
variable {t : Int → Int} {n : Int} {d : Nat} {Q : Option Value ⊕ Nat → am_Mem → Prop} {μ : am_Mem} {l : PM} {a : Nat}
/-- all tokens up to the end, or to the first sign that begins none, are in the rows -/
def SpF (t : Int → Int) (n : Int) (m : PM) (a c J : Nat) : Prop :=
  (∀ j, j < J → ¬ (tK t n j = 0 ∨ tK t n j = 6)) ∧ (tK t n J = 0 ∨ tK t n J = 6) ∧ (NcI m a c ∧ (∀ j k, j < c → k < c → cn m a j = cn m a k → j = k) ∧ c ≤ 10 + nt t n J ∧ W10 m a c) ∧ m 18 3 = (J : Int) + 1 ∧ (J : Int) ≤ 2000 ∧ ∀ j : Nat, j ≤ J → m 19 j = ckK (tK t n j) ∧ m 20 j = tkP t n j ∧ (isN (tK t n j) → cX m a c (m 21 j) (tW t n j))
theorem SpJ_end {m : PM} {c i : Nat} {k : Int} (ha : a = 23 ∨ a = 43) (hn : 0 ≤ n ∧ n ≤ 2000) (h : SpJ t n m a c i) (hb : ∀ j, j < i → ¬ (tK t n j = 0 ∨ tK t n j = 6)) (hk : tK t n i = 0 ∨ tK t n i = 6) (ek : k = ckK (tK t n i)) : SpF t n (apM m k (tkP t n i)) a c i := by
  obtain ⟨⟨h1, h2, h3⟩, ⟨h4, h5, h6, h7⟩, h8, h9, h10⟩ := h
  have hS := tks_r (t := t) hn.1 i
  have kk : ∀ c i', ¬ (c = 19 ∨ c = 20 ∨ (c = 18 ∧ i' = 3)) → apM m k (tkP t n i) c i' = m c i' := fun c i' q => k_apM (by omega) (by omega) (by omega)
  have e3 : apM m k (tkP t n i) (a + 3) = m (a + 3) := funext fun x => kk _ _ (by omega)
  have e2 : apM m k (tkP t n i) (a + 2) = m (a + 2) := funext fun x => kk _ _ (by omega)
  have e4 : apM m k (tkP t n i) (a + 4) = m (a + 4) := funext fun x => kk _ _ (by omega)
  have ea : apM m k (tkP t n i) a 4 = m a 4 := kk _ _ (by omega)
  have kcn : ∀ j, cn (apM m k (tkP t n i)) a j = cn m a j := by
    intro j
    unfold cn
    rw [e2, e3]
  have hI' : NcI (apM m k (tkP t n i)) a c := by
    unfold NcI NcT at h4 ⊢
    rw [e2, e3, e4, ea]
    refine ⟨h4.1, h4.2.1, ?_⟩
    have : (fun j => (hsP (cn (apM m k (tkP t n i)) a j)).toNat) = fun j => (hsP (cn m a j)).toNat := funext fun j => by rw [kcn]
    rw [this]
    exact h4.2.2
  refine ⟨hb, hk, ⟨hI', fun j q hj hq z => h5 j q hj hq (by rw [← kcn j, ← kcn q]; exact z), h6, ⟨h7.2.1, fun k hk => by rw [kcn]; exact h7.2.2.1 k hk, by rw [e3]; exact h7.2.2.2⟩⟩, ?_, by omega, fun j hj => ?_⟩
  · unfold apM
    rw [up_s, h8]
  · by_cases z : j = i
    · subst z
      refine ⟨?_, ?_, fun y => ?_⟩
      · unfold apM
        rw [up_c (by decide), up_c (by decide), h8, up_s, ek]
      · unfold apM
        rw [up_c (by decide), h8, up_s]
      · rcases y with y | y <;> omega
    · obtain ⟨q1, q2, q3⟩ := h10 j (by omega)
      have r19 : apM m k (tkP t n i) 19 j = m 19 j := by
        unfold apM
        rw [up_c (by decide), up_c (by decide), h8, up_i (by omega)]
      have r20 : apM m k (tkP t n i) 20 j = m 20 j := by
        unfold apM
        rw [up_c (by decide), h8, up_i (by omega), up_c (by decide)]
      have r21 : apM m k (tkP t n i) 21 j = m 21 j := kk _ _ (by omega)
      rw [r19, r20, r21]
      refine ⟨q1, q2, fun y => ?_⟩
      obtain ⟨y1, y2, y3⟩ := q3 y
      exact ⟨y1, y2, by rw [kcn]; exact y3⟩
theorem split_19b (H : CS μ) (ha : a = 23 ∨ a = 43) (hn : 0 ≤ n ∧ n ≤ 2000) {m0 : PM} (hq : ∀ (m' : PM) (c J : Nat), SpF t n m' a c J → (∀ x j, ¬ SSp a x j → m' x j = m0 x j) → m' 18 5 = n → Q (.inl none) (sA μ m' l)) :
    ∀ (r i c : Nat) (m : PM) (o5 : Option Value), n ≤ tkS t n i + r → SpJ t n m a c i → (∀ j, j < i → ¬ (tK t n j = 0 ∨ tK t n j = 6)) → (∀ x j, ¬ SSp a x j → m x j = m0 x j) → Wp (d + 4) 104 (19, [some (.ref 18), some (.int (zI n)), some (.ref a), some (.int (zI (tkP t n i))), some (.int (zI i)), o5], [], sA μ m l) Q := by
  -- at the text's end
  have hend : ∀ (i c : Nat) (m : PM) (o5 : Option Value), SpJ t n m a c i → (∀ j, j < i → ¬ (tK t n j = 0 ∨ tK t n j = 6)) → (∀ x j, ¬ SSp a x j → m x j = m0 x j) → n ≤ tkP t n i → Wp (d + 4) 104 (19, [some (.ref 18), some (.int (zI n)), some (.ref a), some (.int (zI (tkP t n i))), some (.int (zI i)), o5], [], sA μ m l) Q := by
    intro i c m o5 hI hb hs hp
    have hP := tkP_r (t := t) hn.1 i
    have hS := tks_r (t := t) hn.1 i
    have h8 := hI.2.2.1
    have h9 := hI.2.2.2.1
    have ep : tkP t n i = n := by omega
    have k0 := tK_end hp
    have fin : ∀ m1 : PM, m1 = apM m 5 n → Q (.inl none) (sA μ m1 l) := by
      intro m1 e1
      have hE := SpJ_end (k := 5) ha hn hI hb (Or.inl k0) (by rw [k0]; decide)
      rw [ep, ← e1] at hE
      refine hq m1 c i hE (fun x j q => ?_) ?_
      · rw [e1, k_apM (by omega) (by omega) (by omega), hs x j q]
      · rw [e1, k_apM (by omega) (by omega) (by omega)]
        exact hI.1.2.1
    refine K104_19 H ha ⟨by omega, by omega, fun _ => ⟨by omega, fin⟩, fun _ => ⟨by omega, fun _ => ⟨by omega, fin⟩, fun z => absurd (by omega) z⟩⟩
  intro r
  induction r with
  | zero =>
    intro i c m o5 hr hI hb hs
    have hP := tkP_r (t := t) hn.1 i
    exact hend i c m o5 hI hb hs (by omega)
  | succ r ih =>
    intro i c m o5 hr hI hb hs
    have hP := tkP_r (t := t) hn.1 i
    by_cases hp : n ≤ tkP t n i
    · exact hend i c m o5 hI hb hs hp
    · have hp' : tkP t n i < n := by omega
      have hI0 := hI
      obtain ⟨⟨h1, h2, h3⟩, ⟨h4, h5, h6, h7⟩, h8, h9, h10⟩ := hI
      have hnt := nt_le (t := t) hn i
      have hle := tk_le (t := t) (n := n) (p := tkP t n i) ⟨hP.2.1, hP.2.2⟩
      have hgo : ∀ (c' : Nat) (m' : PM), SpJ t n m' a c' (i + 1) → (∀ x j, ¬ SSp a x j → m' x j = m0 x j) → ¬ (tK t n i = 0 ∨ tK t n i = 6) → Wp (d + 4) 104 (36, [some (.ref 18), some (.int (zI n)), some (.ref a), some (.int (zI (tkP t n i))), some (.int (zI i)), o5], [.int (zI (tkE t n (tkP t n i)))], sA μ m' l) Q := by
        intro c' m' hI' hs' hne
        refine K104_36 H ha ⟨by omega, fun _ => ⟨hI'.1.2.2, by rw [hI'.1.2.1]; omega, ?_⟩, fun z => absurd (by omega) z⟩
        intro v1 e1
        have ev : v1 = tkP t n (i + 1) := by
          rw [e1, hI'.1.1, hI'.1.2.1]
          rfl
        have ei : ((i : Int) + 1) = ((i + 1 : Nat) : Int) := by omega
        rw [ev, ei]
        refine ih (i + 1) c' m' _ ?_ hI' (fun j hj => ?_) hs'
        · rw [tkS_s]
          show n ≤ tkE t n (tkP t n i) + r
          have := hle.2.2 hp'
          omega
        · by_cases z : j = i
          · rw [z]; exact hne
          · exact hb j (by omega)
      have k0 := tK_ne hp'
      refine K104_19 H ha ⟨by omega, by omega, fun z => absurd z (by omega), fun _ => ⟨by omega, fun z => absurd z (by omega), fun _ => ?_⟩⟩
      refine ⟨fun x μ' => Wp (d + 4) 104 (36, [some (.ref 18), some (.int (zI n)), some (.ref a), some (.int (zI (tkP t n i))), some (.int (zI i)), o5], [.int x], μ') Q, noX, ?_, fun x μ' z => z, fun _ _ z => z.elim⟩
      have ht := k_take (d := d) (l := l) (p := tkP t n i) (c := c) (Q := pI (fun x μ' => Wp (d + 4) 104 (36, [some (.ref 18), some (.int (zI n)), some (.ref a), some (.int (zI (tkP t n i))), some (.int (zI i)), o5], [.int x], μ') Q) noX) H ha h3 h4 (by omega) (by rw [h2]; omega) (by omega) (by rw [h2]; omega)
      rw [h1, h2, h8] at ht
      refine ht (fun k6 => ?_) (fun k ek hk => ?_) (fun k ek hk j hj hc => ?_) (fun k ek hk w hw hno t0 mm z0 zm ep hz hnz => ?_)
      · show Wp (d + 4) 104 (36, [some (.ref 18), some (.int (zI n)), some (.ref a), some (.int (zI (tkP t n i))), some (.int (zI i)), o5], [.int (zI (-1))], sA μ m l) Q
        refine K104_36 H ha ⟨by decide, fun z => absurd rfl z, fun _ => ⟨by omega, ?_⟩⟩
        intro m2 e2
        have k6' : tK t n i = 6 := k6
        have hE := SpJ_end (k := 6) ha hn hI0 hb (Or.inr k6') (by rw [k6']; decide)
        rw [← e2] at hE
        refine hq m2 c i hE (fun x j q => ?_) ?_
        · rw [e2, k_apM (by omega) (by omega) (by omega), hs x j q]
        · rw [e2, k_apM (by omega) (by omega) (by omega)]
          exact h2
      · have ek' : k = tK t n i := ek
        refine hgo c _ (SpJ_tok ha hn hI0 hp' (by rw [← ek']; omega) (by rw [ek'])) (fun x j q => ?_) (by rw [← ek']; omega)
        rw [k_apM (by omega) (by omega) (by omega), hs x j q]
      · have ek' : k = tK t n i := ek
        refine hgo c _ (SpJ_nam (g := m) (c' := c) (v := (j : Int)) ha hn hI0 (by rw [← ek']; exact hk) (fun _ _ _ => rfl) h4 h5 (by omega) ?_ (fun _ _ => rfl) rfl ⟨by omega, by omega, ?_⟩ (by rw [ek'])) (fun x j' q => ?_) (by rw [← ek']; rcases hk with y | y <;> omega)
        · have := tN_r (t := t) hn.1 (i := i) (by rw [← ek']; exact hk)
          omega
        · have : ((j : Int)).toNat = j := by omega
          rw [this]
          exact hc
        · rw [k_apM (by omega) (by omega) (by omega), up_c (by omega), hs x j' q]
      · have ek' : k = tK t n i := ek
        have hN := tN_r (t := t) hn.1 (i := i) (by rw [← ek']; exact hk)
        have hw' : w = tW t n i := hw
        have hwl : (w.length : Int) = tE t n i - tF t n i := by
          rw [hw']
          unfold tW
          rw [sl_len]
          omega
        obtain ⟨c1, c2, c3, c4, c5⟩ := caN_I (t0 := t0) (mm := mm) (w := w) h4 (by omega) (by rw [hwl]; have := hN.2.2.2.2; omega) (fun j hj => by
          rw [hw'] at hj ⊢
          unfold tW at hj ⊢
          rw [sl_len] at hj
          rw [sl_get _ _ _ _ hj, ← h1]
          exact h3.2.2 _) z0 zm ep hz hnz
        refine hgo (c + 1) _ (SpJ_nam (g := caN m a w (((t0 + mm) % 2048 : Nat) : Int)) (c' := c + 1) (v := (c : Int)) ha hn hI0 (by rw [← ek']; exact hk) c4 c1 (fun j k' hj hk' z => ?_) (by omega) ?_ c2 (by
          have h40 : m a 4 = (c : Int) := h4.1.1
          unfold caN
          rw [up_c (by omega), up_c (by omega), up_i (by omega), upL_o _ _ _ (Or.inl (by omega))]) ⟨by omega, by omega, ?_⟩ (by rw [ek'])) (fun x j' q => ?_) (by rw [← ek']; rcases hk with y | y <;> omega)
        · by_cases y1 : j = c
          · by_cases y2 : k' = c
            · omega
            · rw [y1, c3, c2 k' (by omega)] at z
              exact absurd z.symm (hno k' (by omega))
          · by_cases y2 : k' = c
            · rw [y2, c3, c2 j (by omega)] at z
              exact absurd z (hno j (by omega))
            · rw [c2 j (by omega), c2 k' (by omega)] at z
              exact h5 j k' (by omega) (by omega) z
        · have e1 : ((c + 1 : Nat) : Int) = (c : Int) + 1 := by omega
          rw [e1, c5, hwl]
          exact Int.le_refl _
        · have : ((c : Int)).toNat = c := by omega
          rw [this, c3, hw']
        · rw [k_apM (by omega) (by omega) (by omega), up_c (by omega), c4 x j' (by omega), hs x j' q]
end CS2
theorem wdCW : ∀ k, k < 10 → cwW.getD k [] = wdC.getD k [] := by decide +kernel
section CP3
variable {d : Nat} {Q : Option Value ⊕ Nat → am_Mem → Prop} {μ : am_Mem} {m l : PM} {a : Nat}
/-- split: all tokens of a text of n signs -/
theorem k_split2 (H : CS μ) (ha : a = 23 ∨ a = 43) {t : Int → Int} {n : Int} (hn : 0 ≤ n ∧ n ≤ 2000) (ht : m 17 = t) (hr : ∀ j, 0 ≤ t j ∧ t j ≤ 127) (hI : NcI m a 10) (hw : ∀ k, k < 10 → cn m a k = cwW.getD k []) (h48 : m (a + 3) 10 = 48) (h00 : m (a + 3) 0 = 0) (hq : ∀ (m' : PM) (c J : Nat), SpF t n m' a c J → (∀ x j, ¬ SSp a x j → m' x j = m x j) → m' 18 5 = n → Q (.inl none) (sA μ m' l)) : Wp (d + 4) 104 (0, [some (.ref 18), some (.int (zI n)), some (.ref a), none, none, none], [], sA μ m l) Q := by
  refine K104_0 H ha ?_
  intro m1 e1
  have k : ∀ x j, ¬ (x = 18 ∧ (j = 3 ∨ j = 5)) → m1 x j = m x j := by
    intro x j q
    rw [e1, up_o (by omega), up_o (by omega)]
  have k5 : m1 18 5 = n := by rw [e1, up_i (by decide), up_s]
  have k3 : m1 18 3 = 0 := by rw [e1, up_s]
  have k17 : m1 17 = t := by rw [← ht]; exact funext fun j => k _ _ (by omega)
  have T : CX m1 := ⟨by rw [k5]; exact hn.1, by rw [k5]; exact hn.2, fun j => by rw [k17]; exact hr j⟩
  refine ⟨T, ⟨Int.le_refl _, by rw [k5]; exact hn.1⟩, ?_⟩
  intro v2 e2
  have ev : v2 = tkP t n 0 := by rw [e2, k17, k5]; rfl
  rw [ev]
  have e2' : m1 (a + 2) = m (a + 2) := funext fun x => k _ _ (by omega)
  have e3' : m1 (a + 3) = m (a + 3) := funext fun x => k _ _ (by omega)
  have e4' : m1 (a + 4) = m (a + 4) := funext fun x => k _ _ (by omega)
  have ea : m1 a 4 = m a 4 := k _ _ (by omega)
  have kcn : ∀ j, cn m1 a j = cn m a j := by
    intro j
    unfold cn
    rw [e2', e3']
  have hI1 : NcI m1 a 10 := by
    unfold NcI NcT at hI ⊢
    rw [e2', e3', e4', ea]
    refine ⟨hI.1, hI.2.1, ?_⟩
    have : (fun j => (hsP (cn m1 a j)).toNat) = fun j => (hsP (cn m a j)).toNat := funext fun j => by rw [kcn]
    rw [this]
    exact hI.2.2
  have hinj : ∀ j, j < 10 → ∀ k, k < 10 → cwW.getD j [] = cwW.getD k [] → j = k := by decide +kernel
  refine split_19b (l := l) (m0 := m) H ha hn hq n.toNat 0 10 m1 none ?_ ⟨⟨k17, k5, T⟩, ⟨hI1, fun j q hj hq' z => ?_, by omega, ?_, ⟨Nat.le_refl _, fun k hk => by rw [kcn, hw k hk]; exact wdCW k hk, by rw [e3']; exact h00⟩⟩, k3, ?_, fun j hj => absurd hj (Nat.not_lt_zero j)⟩ (fun j hj => absurd hj (Nat.not_lt_zero j)) (fun x j q => k x j (by omega))
  · show n ≤ 0 + (n.toNat : Int)
    omega
  · rw [kcn, kcn, hw j hj, hw q hq'] at z
    exact hinj j hj q hq' z
  · show m1 (a + 3) ((10 : Nat) : Int) ≤ 48 + 0
    rw [e3']
    show m (a + 3) 10 ≤ 48 + 0
    rw [h48]
    decide
  · show ((0 : Nat) : Int) ≤ 0
    decide
end CP3
