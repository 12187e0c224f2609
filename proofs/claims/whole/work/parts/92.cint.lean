/-! ===== the class's names: intern, whole ===== -/
/-- the memory with one more name of the object a, its place q -/
def caN (m : PM) (a : Nat) (w : List Int) (q : Int) : PM := up (up (up (upL m (a + 2) (m (a + 3) (m a 4)) w) (a + 3) (m a 4 + 1) (m (a + 3) (m a 4) + w.length)) a 4 (m a 4 + 1)) (a + 4) q (m a 4 + 1)
section CIT
variable {d : Nat} {Q : Option Value ⊕ Nat → am_Mem → Prop} {μ : am_Mem} {m l : PM} {a tx n1 c k len : Nat} {b : Int}
theorem int_111 (H : CS μ) (ha : a = 23 ∨ a = 43) (hr : tx = 17 ∨ tx = a + 1) (hk1 : am_kd μ tx = (5, n1)) (h1 : n1 ≤ 2058) (hN : NcT m a c) (hc : c < 1024) (hb : 0 ≤ b ∧ b + len ≤ n1) (ht : ∀ j, 0 ≤ m tx j ∧ m tx j ≤ 127) (hpo : m (a + 3) c + len ≤ 2058) {q hs : Int} {o7 : Option Value} (hq : 0 ≤ q ∧ q < 2048) (h : Q (.inl (some (.int (zI c)))) (sA μ (caN m a (sl (m tx) b len) q) l)) :
    ∀ (r j : Nat), j + r = len → Wp (d + 2) 49 (111, [some (.ref a), some (.ref tx), some (.int (zI b)), some (.int (zI len)), some (.int (zI hs)), some (.int (zI q)), some (.int (zI j)), o7], [], sA μ (upL m (a + 2) (m (a + 3) c) (sl (m tx) b j)) l) Q := by
  have hrc := NcT_r hN c (Nat.le_refl _)
  obtain ⟨g1, g2, g3, g4, g5, g6⟩ := hN
  have e4 : ∀ j, upL m (a + 2) (m (a + 3) c) (sl (m tx) b j) a 4 = c := fun j => by rw [upL_o _ _ _ (Or.inl (by omega))]; exact g1
  have e3 : ∀ j, upL m (a + 2) (m (a + 3) c) (sl (m tx) b j) (a + 3) c = m (a + 3) c := fun j => upL_o _ _ _ (Or.inl (by omega))
  have et : ∀ j i, upL m (a + 2) (m (a + 3) c) (sl (m tx) b j) tx i = m tx i := fun j i => upL_o _ _ _ (Or.inl (by omega))
  intro r
  induction r with
  | zero =>
    intro j hj
    obtain rfl : j = len := by omega
    refine K49_111 H ha hr hk1 h1 ?_
    rw [e4, e3]
    refine ⟨by omega, by omega, fun _ => ⟨by omega, by omega, ?_⟩, fun z => absurd (by omega) z⟩
    rintro m1 rfl
    refine ⟨by omega, ?_⟩
    have e : ((c : Int) + 1 - 1) = c := by omega
    rw [e]
    have e2 : caN m a (sl (m tx) b j) q = up (up (up (upL m (a + 2) (m (a + 3) c) (sl (m tx) b j)) (a + 3) ((c : Int) + 1) (m (a + 3) c + j)) a 4 ((c : Int) + 1)) (a + 4) q ((c : Int) + 1) := by
      unfold caN
      rw [g1, sl_len]
    rw [e2] at h
    exact h
  | succ r ih =>
    intro j hj
    have q2 := ht (b + j)
    refine K49_111 H ha hr hk1 h1 ?_
    rw [e4, e3, et]
    refine ⟨by omega, by omega, fun z => absurd z (by omega), fun _ => ⟨by omega, by omega, by omega, by omega, ?_⟩⟩
    rintro m2 rfl
    have := ih (j + 1) (by omega)
    rw [sl_succ, upL_snoc, sl_len] at this
    have e : ((j + 1 : Nat) : Int) = (j : Int) + 1 := by omega
    rw [e] at this
    exact this
/-- intern: a name that is there, or a new one -/
theorem k_intern (H : CS μ) (ha : a = 23 ∨ a = 43) (hr : tx = 17 ∨ tx = a + 1) (hk1 : am_kd μ tx = (5, n1)) (h1 : n1 ≤ 2058) (hI : NcI m a c) (hc : c < 1024) (hb : 0 ≤ b ∧ b + len ≤ n1) (ht : ∀ j, 0 ≤ m tx j ∧ m tx j ≤ 127) (hpo : m (a + 3) c + len ≤ 2058)
    (hf : ∀ k : Nat, k < c → cn m a k = sl (m tx) b len → Q (.inl (some (.int (zI k)))) (sA μ m l))
    (hn : (∀ k : Nat, k < c → ¬ cn m a k = sl (m tx) b len) → ∀ t0 mm : Nat, t0 < 2048 → mm < 2048 → hsP (sl (m tx) b len) = (t0 : Int) → m (a + 4) (((t0 + mm) % 2048 : Nat) : Int) = 0 → (∀ m', m' < mm → ¬ m (a + 4) (((t0 + m') % 2048 : Nat) : Int) = 0) → Q (.inl (some (.int (zI c)))) (sA μ (caN m a (sl (m tx) b len) (((t0 + mm) % 2048 : Nat) : Int)) l)) :
    Wp (d + 2) 49 (0, [some (.ref a), some (.ref tx), some (.int (zI b)), some (.int (zI len)), none, none, none, none], [], sA μ m l) Q := by
  obtain ⟨t0, h0, et⟩ := zAnd_r (zXor (hsS (sl (m tx) b len)) (zUsh (hsS (sl (m tx) b len)) 11))
  have ep : hsP (sl (m tx) b len) = (t0 : Int) := et
  have hI0 := hI
  obtain ⟨hN, hv, hH⟩ := hI
  obtain ⟨mm, hm, hz, hnz⟩ := HT_first hH (by omega) t0 h0
  have hz' : m (a + 4) (((t0 + mm) % 2048 : Nat) : Int) = 0 := by
    have := hv ((t0 + mm) % 2048) (Nat.mod_lt _ (by omega))
    have z : (m (a + 4) (((t0 + mm) % 2048 : Nat) : Int)).toNat = 0 := hz
    omega
  have hnz' : ∀ m', m' < mm → ¬ m (a + 4) (((t0 + m') % 2048 : Nat) : Int) = 0 := by
    intro m' hm' z
    exact hnz m' hm' (by show (m (a + 4) (((t0 + m') % 2048 : Nat) : Int)).toNat = 0; rw [z]; rfl)
  refine K49_0 H ha hr hk1 h1 ?_
  have h6 := int_6 (d := d) (l := l) (Q := Q) (m := m) H ha hr hk1 h1 hb (len := len) ?_ len 0 (by omega)
  · exact h6
  · rw [ep]
    have e0 : (t0 : Int) = (((t0 + 0) % 2048 : Nat) : Int) := by rw [Nat.add_zero, Nat.mod_eq_of_lt h0]
    have hw := int_49 (d := d) (l := l) (Q := Q) (hs := hsS (sl (m tx) b len)) H ha hr hk1 h1 hI0 hb ht h0 hm hz' hnz' hf (fun hno o7 => ?_) mm 0 none (by omega) (fun m' hm' => absurd hm' (Nat.not_lt_zero m'))
    · rw [← e0] at hw
      exact hw
    · have hall : ∀ k : Nat, k < c → ¬ cn m a k = sl (m tx) b len := by
        intro k hk z
        have hpl : (fun k => (hsP (cn m a k)).toNat) k = t0 := by
          show (hsP (cn m a k)).toNat = t0
          rw [z, ep]
          omega
        obtain ⟨m', g1, g2⟩ := HT_before hH hk hpl hz
        refine hno m' g1 k ?_ z
        have g2' : (m (a + 4) (((t0 + m') % 2048 : Nat) : Int)).toNat = k + 1 := g2
        omega
      have := int_111 (d := d) (l := l) (Q := Q) (hs := hsS (sl (m tx) b len)) (o7 := o7) H ha hr hk1 h1 hN hc hb ht hpo (q := (((t0 + mm) % 2048 : Nat) : Int)) (by have := Nat.mod_lt (t0 + mm) (show 0 < 2048 by decide); omega) (hn hall t0 mm h0 hm ep hz' hnz') len 0 (by omega)
      exact this
/-- with a new name they are still names -/
theorem caN_I {t0 mm : Nat} {w : List Int} (hI : NcI m a c) (hc : c < 1024) (hpo : m (a + 3) c + w.length ≤ 2058) (hw : ∀ j : Nat, j < w.length → 0 ≤ w.getD j 0 ∧ w.getD j 0 ≤ 127) (h0 : t0 < 2048) (hm : mm < 2048) (ep : hsP w = (t0 : Int)) (hz : m (a + 4) (((t0 + mm) % 2048 : Nat) : Int) = 0) (hnz : ∀ m', m' < mm → ¬ m (a + 4) (((t0 + m') % 2048 : Nat) : Int) = 0) :
    NcI (caN m a w (((t0 + mm) % 2048 : Nat) : Int)) a (c + 1) ∧ (∀ k, k < c → cn (caN m a w (((t0 + mm) % 2048 : Nat) : Int)) a k = cn m a k) ∧ cn (caN m a w (((t0 + mm) % 2048 : Nat) : Int)) a c = w ∧ (∀ x j, ¬ ((x = a ∧ j = 4) ∨ x = a + 2 ∨ x = a + 3 ∨ x = a + 4) → caN m a w (((t0 + mm) % 2048 : Nat) : Int) x j = m x j) ∧ caN m a w (((t0 + mm) % 2048 : Nat) : Int) (a + 3) ((c : Int) + 1) = m (a + 3) c + w.length := by
  obtain ⟨hN, hv, hH⟩ := hI
  have hrr := NcT_r hN
  obtain ⟨g1, g2, g3, g4, g5, g6⟩ := hN
  have hE : caN m a w (((t0 + mm) % 2048 : Nat) : Int) = up (up (up (upL m (a + 2) (m (a + 3) c) w) (a + 3) ((c : Int) + 1) (m (a + 3) c + w.length)) a 4 ((c : Int) + 1)) (a + 4) (((t0 + mm) % 2048 : Nat) : Int) ((c : Int) + 1) := by
    unfold caN
    rw [g1]
  generalize hg : caN m a w (((t0 + mm) % 2048 : Nat) : Int) = g at hE ⊢
  have p4 : g a 4 = (c : Int) + 1 := by rw [hE, up_c (by omega), up_s]
  have pF : ∀ j, ¬ j = (c : Int) + 1 → g (a + 3) j = m (a + 3) j := fun j hj => by rw [hE, up_c (by omega), up_c (by omega), up_i hj, upL_o _ _ _ (Or.inl (by omega))]
  have pF1 : g (a + 3) ((c : Int) + 1) = m (a + 3) c + w.length := by rw [hE, up_c (by omega), up_c (by omega), up_s]
  have pP : ∀ j, g (a + 2) j = upL m (a + 2) (m (a + 3) c) w (a + 2) j := fun j => by rw [hE, up_c (by omega), up_c (by omega), up_c (by omega)]
  have pS : ∀ j, g (a + 4) j = if j = (((t0 + mm) % 2048 : Nat) : Int) then (c : Int) + 1 else m (a + 4) j := by
    intro j
    rw [hE]
    by_cases z : j = (((t0 + mm) % 2048 : Nat) : Int)
    · rw [if_pos z, z, up_s]
    · rw [if_neg z, up_i z, up_c (by omega), up_c (by omega), upL_o _ _ _ (Or.inl (by omega))]
  have pO : ∀ x j, ¬ ((x = a ∧ j = 4) ∨ x = a + 2 ∨ x = a + 3 ∨ x = a + 4) → g x j = m x j := by
    intro x j z
    rw [hE, up_o (by omega), up_o (by omega), up_o (by omega), upL_o _ _ _ (Or.inl (by omega))]
  have kc : ∀ k : Nat, k < c → cn g a k = cn m a k := by
    intro k hk
    have r1 := hrr k (by omega)
    have r2 := hrr (k + 1) (by omega)
    have e1 : ((k + 1 : Nat) : Int) = (k : Int) + 1 := by omega
    rw [e1] at r2
    unfold cn
    rw [pF _ (by omega), pF _ (by omega), sl_eq]
    refine ⟨rfl, fun j hj => ?_⟩
    rw [pP, upL_o _ _ _ (Or.inr (Or.inl (by omega)))]
  have kn : cn g a c = w := by
    unfold cn
    rw [pF1, pF _ (by omega)]
    have e : (m (a + 3) c + (w.length : Int) - m (a + 3) c).toNat = w.length := by omega
    rw [e]
    apply List.ext_getElem
    · rw [sl_len]
    · intro j hj hj2
      have e1 := sl_get (g (a + 2)) (m (a + 3) c) w.length j hj2
      rw [pP, upL_g w m _ j hj2] at e1
      rw [List.getD_eq_getElem?_getD, List.getD_eq_getElem?_getD, List.getElem?_eq_getElem hj, List.getElem?_eq_getElem hj2] at e1
      exact e1
  refine ⟨⟨⟨by rw [p4]; omega, by omega, by rw [pF _ (by omega)]; exact g3, fun k hk => ?_, ?_, fun j => ?_⟩, fun i hi => ?_, ?_⟩, kc, kn, pO, pF1⟩
  · by_cases z : k = c
    · rw [z, pF1, pF _ (by omega)]
      omega
    · rw [pF _ (by omega), pF _ (by omega)]
      exact g4 k (by omega)
  · have e : ((c + 1 : Nat) : Int) = (c : Int) + 1 := by omega
    rw [e, pF1]
    exact hpo
  · rw [pP]
    by_cases z : m (a + 3) c ≤ j ∧ j < m (a + 3) c + w.length
    · have e : j = m (a + 3) c + ((j - m (a + 3) c).toNat : Int) := by omega
      rw [e, upL_g w m _ _ (by omega)]
      exact hw _ (by omega)
    · rw [upL_o _ _ _ (by omega)]
      exact g6 j
  · rw [pS]
    have := hv i hi
    split <;> omega
  · refine HT_congr (by decide) (fun i hi => ?_) (fun k hk => ?_) (HT_add hH (t := t0) (m := mm) (by omega) hm (by show (m (a + 4) (((t0 + mm) % 2048 : Nat) : Int)).toNat = 0; rw [hz]; rfl) (fun m' hm' z => hnz m' hm' (by
      have z' : (m (a + 4) (((t0 + m') % 2048 : Nat) : Int)).toNat = 0 := z
      have := hv ((t0 + m') % 2048) (Nat.mod_lt _ (by omega))
      omega)))
    · show (if i = (t0 + mm) % 2048 then c + 1 else (m (a + 4) i).toNat) = (g (a + 4) i).toNat
      rw [pS]
      by_cases z : i = (t0 + mm) % 2048
      · rw [if_pos z, if_pos (by rw [z])]
        omega
      · rw [if_neg z, if_neg (show ¬ ((i : Nat) : Int) = (((t0 + mm) % 2048 : Nat) : Int) by omega)]
    · show (if k = c then t0 else (hsP (cn m a k)).toNat) = (hsP (cn g a k)).toNat
      by_cases z : k = c
      · rw [if_pos z, z, kn, ep]
        omega
      · rw [if_neg z, kc k (by omega)]
end CIT
