/-! ===== the class's read up to its verdict ===== -/
theorem NcI_cg2 {m m' : PM} {a c : Nat} (ea : m' a 4 = m a 4) (e2 : m' (a + 2) = m (a + 2)) (e3 : m' (a + 3) = m (a + 3)) (e4 : m' (a + 4) = m (a + 4)) (h : NcI m a c) : NcI m' a c ∧ ∀ k, cn m' a k = cn m a k := by
  have kcn : ∀ j, cn m' a j = cn m a j := by
    intro j
    unfold cn
    rw [e2, e3]
  refine ⟨?_, kcn⟩
  unfold NcI NcT at h ⊢
  rw [e2, e3, e4, ea]
  refine ⟨h.1, h.2.1, ?_⟩
  have : (fun j => (hsP (cn m' a j)).toNat) = fun j => (hsP (cn m a j)).toNat := funext fun j => by rw [kcn]
  rw [this]
  exact h.2.2
theorem CNm_cg2 {m m' : PM} {a : Nat} (e1 : m' (a + 1) = m (a + 1)) (e2 : m' (a + 2) = m (a + 2)) (e3 : m' (a + 3) = m (a + 3)) (h : CNm m a) : CNm m' a := by
  unfold CNm at h ⊢
  rw [e1, e2, e3]
  exact h
theorem cX_cg2 {m m' : PM} {a c : Nat} (k : ∀ j, cn m' a j = cn m a j) : cX m' a c = cX m a c := by
  funext x w
  unfold cX
  rw [k]
/-- names as they are after splitting -/
def NmC (m : PM) (a c : Nat) : Prop := NcI m a c ∧ (∀ j k, j < c → k < c → cn m a j = cn m a k → j = k) ∧ c ≤ 1010 ∧ W10 m a c
theorem NmC_cg {m m' : PM} {a c : Nat} (ea : m' a 4 = m a 4) (e2 : m' (a + 2) = m (a + 2)) (e3 : m' (a + 3) = m (a + 3)) (e4 : m' (a + 4) = m (a + 4)) (h : NmC m a c) : NmC m' a c ∧ cX m' a c = cX m a c := by
  obtain ⟨z, k⟩ := NcI_cg2 ea e2 e3 e4 h.1
  refine ⟨⟨z, fun j q hj hq y => h.2.1 j q hj hq (by rw [← k j, ← k q]; exact y), h.2.2.1, h.2.2.2.1, fun j hj => by rw [k]; exact h.2.2.2.2.1 j hj, by rw [e3]; exact h.2.2.2.2.2⟩, cX_cg2 k⟩
theorem wd8 : wdC.getD 8 [] = wdL.getD 0 [] ∧ wdC.getD 9 [] = wdL.getD 1 [] := by decide +kernel
theorem NmC_X {m : PM} {a c : Nat} (h : NmC m a c) : XP (cX m a c) ∧ (∀ x w, cX m a c x w → x < 1024) ∧ ∀ k : Nat, k < 10 → cX m a c (k : Int) (wdC.getD k []) := by
  obtain ⟨h1, h2, h3, h4, h5, h6⟩ := h
  have hw : ∀ k : Nat, k < 10 → cX m a c (k : Int) (wdC.getD k []) := fun k hk => ⟨by omega, by omega, by rw [show ((k : Int)).toNat = k from rfl]; exact h5 k hk⟩
  refine ⟨⟨fun x w z => ⟨z.1, by have := z.2.1; omega⟩, fun x w w' z z' => z.2.2.symm.trans z'.2.2, fun x y w z z' => ?_, ?_, ?_⟩, fun x w z => by have := z.2.1; omega, hw⟩
  · have e := h2 x.toNat y.toNat (by have := z.2.1; have := z.1; omega) (by have := z'.2.1; have := z'.1; omega) (z.2.2.trans z'.2.2.symm)
    have := z.1
    have := z'.1
    omega
  · rw [← wd8.1]
    exact hw 8 (by decide)
  · rw [← wd8.2]
    exact hw 9 (by decide)
/-- the same shape but for the sheet of the parser and of the checker -/
def SmS (μ μ' : am_Mem) : Prop := am_n μ' = am_n μ ∧ am_sl μ' = am_sl μ ∧ am_kd μ' = am_kd μ ∧ ∀ c f, ¬ ((c = 62 ∨ c = 65) ∧ f = 1) → am_F μ' c f = am_F μ c f
theorem SmS_pR {μ μ' : am_Mem} {c r : Nat} (hc : c = 62 ∨ c = 65) (h : SmS μ μ') : SmS μ (am_pR μ' c 1 r) := by
  refine ⟨h.1, h.2.1, h.2.2.1, fun c' f' hn => ?_⟩
  show (if c' = c ∧ f' = 1 then r else am_F μ' c' f') = _
  rw [if_neg (by rintro ⟨rfl, rfl⟩; exact hn ⟨hc, rfl⟩)]
  exact h.2.2.2 c' f' hn
/-- the verdict over a text -/
noncomputable def vd (t : Int → Int) (n : Int) : Int × Int := match pSh t n 60 0 [] with
  | .inl e => (1, tkP t n e)
  | .inr rs => chF rs
abbrev WRd (s c : Nat) (j : Int) : Prop := (c = 16 ∧ j = 2) ∨ (18 ≤ c ∧ c ≤ 21) ∨ (s ≤ c ∧ c ≤ s + 19) ∨ (62 ≤ c ∧ c ≤ 69)
/-- the class's sheet with its names and its plan -/
def ClS (s : Nat) (rs : List Rul) (m : PM) : Prop := ∃ (c : Nat) (m0 m1 l0 : PM) (h : Nat), NmC m (s + 1) c ∧ KV (cX m (s + 1) c) s m rs ∧ KV (cX m (s + 1) c) s m0 rs ∧ (∀ c j, SHc s c j → m c j = m0 c j) ∧ RLt (cX m (s + 1) c) rs m0 l0 h ∧ PlE s rs m0 l0 h m1 ∧ CovC (cX m (s + 1) c) s m 0 (m s 6) ∧ ∀ c j, s ≤ c → c ≤ s + 19 → m c j = m1 c j
theorem ClS_cg {s : Nat} {rs : List Rul} {m m' : PM} (k : ∀ c j, s ≤ c → c ≤ s + 19 → m' c j = m c j) (h : ClS s rs m) : ClS s rs m' := by
  obtain ⟨c, m0, m1, l0, h, h1, h2, h3, h4, h5, h6, hcv, h7⟩ := h
  obtain ⟨n1, n2⟩ := NmC_cg (m' := m') (k _ _ (by omega) (by omega)) (funext fun x => k _ _ (by omega) (by omega)) (funext fun x => k _ _ (by omega) (by omega)) (funext fun x => k _ _ (by omega) (by omega)) h1
  refine ⟨c, m0, m1, l0, h, n1, ?_, by rw [n2]; exact h3, fun c j q => (k c j (by omega) (by omega)).trans (h4 c j q), by rw [n2]; exact h5, h6, by rw [n2, k s 6 (by omega) (by omega)]; exact CovC_cg (N := m s 6) (Int.le_refl _) (fun i _ => ⟨k _ _ (by omega) (by omega), k _ _ (by omega) (by omega), k _ _ (by omega) (by omega), k _ _ (by omega) (by omega)⟩) (fun i _ => k _ _ (by omega) (by omega)) hcv, fun c j q1 q2 => (k c j q1 q2).trans (h7 c j q1 q2)⟩
  rw [n2]
  exact KV_cg (fun c j q => k c j (by omega) (by omega)) h2
section CRD
variable {d : Nat} {μ : am_Mem} {s : Nat} {l : PM} {Q : Option Value ⊕ Nat → am_Mem → Prop}
theorem a_of (hs : s = 22 ∨ s = 42) : s + 1 = 23 ∨ s + 1 = 43 := by omega
theorem k_sclear {m : PM} (H : CS μ) (hs : s = 22 ∨ s = 42) (hM : CNm m (s + 1)) (hq : ∀ m' : PM, NcI m' (s + 1) 10 → (∀ k, k < 10 → cn m' (s + 1) k = cwW.getD k []) → m' (s + 4) 10 = 48 → m' s 6 = 0 → (∀ x j, ¬ (s ≤ x ∧ x ≤ s + 5) → m' x j = m x j) → CNm m' (s + 1) → Q (.inl none) (sA μ m' l)) : Wp (d + 4) 65 (0, [some (.ref s)], [], sA μ m l) Q := by
  refine K65_0 H hs ⟨fun μ' => ∃ m', μ' = sA μ m' l ∧ NcI m' (s + 1) 10 ∧ (∀ k, k < 10 → cn m' (s + 1) k = cwW.getD k []) ∧ m' (s + 1 + 3) 10 = 48 ∧ (∀ x j, ¬ ((x = s + 1 ∧ j = 4) ∨ x = s + 1 + 2 ∨ x = s + 1 + 3 ∨ x = s + 1 + 4) → m' x j = m x j) ∧ CNm m' (s + 1), noX, k_clear (d := d) H (a_of hs) hM (fun m' h1 h2 h3 h4 h5 => ⟨m', rfl, h1, h2, h3, h4, h5⟩), fun μ' hp => ?_, fun _ _ z => z.elim⟩
  obtain ⟨m', rfl, h1, h2, h3, h4, h5⟩ := hp
  have k : ∀ x j, ¬ (x = s) → up (up m' s 6 0) s 13 0 x j = m' x j := fun x j q => by rw [up_c q, up_c q]
  obtain ⟨n1, n2⟩ := NcI_cg2 (m' := up (up m' s 6 0) s 13 0) (a := s + 1) (k _ _ (by omega)) (funext fun x => k _ _ (by omega)) (funext fun x => k _ _ (by omega)) (funext fun x => k _ _ (by omega)) h1
  refine K65_7 H hs (hq _ n1 (fun j hj => (n2 j).trans (h2 j hj)) ?_ ?_ (fun x j q => ?_) ?_)
  · rw [k _ _ (by omega)]
    exact h3
  · rw [up_i (by decide), up_s]
  · rw [k _ _ (by omega)]
    exact h4 x j (by omega)
  · exact CNm_cg2 (funext fun x => k _ _ (by omega)) (funext fun x => k _ _ (by omega)) (funext fun x => k _ _ (by omega)) h5
end CRD
