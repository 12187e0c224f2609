/-! ===== the class's parser: takeConditions, takeRule ===== -/
/-- what reading conditions up to the closing parenthesis does -/
def CsQ (t : Int → Int) (n : Int) (X : Int → List Int → Prop) (J s : Nat) (m : PM) (N r : Int) (h0 : Atm) (q : Rd (List (Nat × Atm))) (x : Int) (m' : PM) : Prop :=
  (∀ c j, ¬ WR s N r c j → m' c j = m c j) ∧ match q with
  | .inl e => x = 0 ∧ m' 62 2 = (e : Int) ∧ e ≤ J
  | .inr (cs, i', vs') => x = 1 ∧ CI t n X J s m' i' vs' ∧ N ≤ m' s 6 ∧ RuI X s m' r h0 cs ∧ CovC X s m' N (m' s 6)
abbrev CsP (t : Int → Int) (n : Int) (X : Int → List Int → Prop) (J s : Nat) (μ : am_Mem) (l m : PM) (N r : Int) (h0 : Atm) (q : Rd (List (Nat × Atm))) : Int32 → am_Mem → Prop := fun y μ' => ∃ (x : Int) (m' : PM), y = zI x ∧ iR x ∧ μ' = sA μ m' l ∧ CsQ t n X J s m N r h0 q x m'
section CPH
variable {t : Int → Int} {n : Int} {X : Int → List Int → Prop} {J : Nat} {d : Nat} {μ : am_Mem} {l : PM} {s : Nat} {r : Int} {h0 : Atm}
theorem tcs_32 {m m0 : PM} {N x2 : Int} {i : Nat} {vs : List (List Int)} {acc : List (Nat × Atm)} (H : CS μ) (hs : s = 22 ∨ s = 42) (hS : am_F μ 62 1 = s) (hR : RuI X s m r h0 acc) (h : CI t n X J s m i vs) (fr : ∀ c j, ¬ WR s N r c j → m c j = m0 c j) (hN : N ≤ m s 6) (hcv : CovC X s m N (m s 6)) :
  Wp (d + 25) 62 (32, [some (.ref 62), some (.int (zI r)), some (.int (zI x2))], [], sA μ m l) (pI (CsP t n X J s μ l m0 N r h0 (if tK t n i = 2 then .inr (acc, i + 1, vs) else .inl i)) noX) := by
  obtain ⟨hT, h2, h3, _⟩ := id h
  have hJ := hT.1
  have hc := ck_all t n i
  have e19 : m 19 (m 62 2) = ckK (tK t n i) := by rw [h2]; exact (hT.2.2.2 i h3).1
  refine K62_32 H hs hS ⟨fun y μ' => (y = zI 0 ∧ ¬ tK t n i = 2 ∧ μ' = sA μ m l) ∨ (y = zI 1 ∧ tK t n i = 2 ∧ μ' = sA μ (up m 62 2 (m 62 2 + 1)) l), noX, k_close H hs hS (by omega) (by rw [e19]; exact hc.2.2.2.2) (fun z => Or.inl ⟨rfl, fun w => z (by rw [e19]; exact hc.2.1.mpr w), rfl⟩) (fun z => Or.inr ⟨rfl, hc.2.1.mp (by rw [← e19]; exact z), rfl⟩), fun y μ' hy => ?_, fun _ _ z => z.elim⟩
  rcases hy with ⟨rfl, hk, rfl⟩ | ⟨rfl, hk, rfl⟩
  · rw [if_neg hk]
    exact K62_36 H hs hS ⟨Or.inl rfl, 0, m, rfl, by decide, rfl, fr, rfl, h2, h3⟩
  · rw [if_pos hk]
    have k4 : ∀ c j, ¬ (c = 62 ∧ j = 2) → up m 62 2 (m 62 2 + 1) c j = m c j := fun c j q => up_o q
    refine K62_36 H hs hS ⟨Or.inr rfl, 1, up m 62 2 (m 62 2 + 1), rfl, by decide, rfl, fun c j w => ?_, rfl, CI_adv hs h (CI_lt h (by omega)), by rw [k4 _ _ (by omega)]; exact hN, ?_, by rw [k4 s 6 (by omega)]; exact CovC_cg (N := m s 6) (Int.le_refl _) (fun i _ => ⟨k4 _ _ (by omega), k4 _ _ (by omega), k4 _ _ (by omega), k4 _ _ (by omega)⟩) (fun i _ => k4 _ _ (by omega)) hcv⟩
    · rw [k4 c j (by omega)]; exact fr c j w
    · exact RuI_cg (by rw [k4 _ _ (by omega)]; exact Int.le_refl _) (fun i _ => ⟨k4 _ _ (by omega), k4 _ _ (by omega), k4 _ _ (by omega), k4 _ _ (by omega)⟩) (fun i _ => k4 _ _ (by omega)) (k4 _ _ (by omega)) (k4 _ _ (by omega)) (k4 _ _ (by omega)) (fun j _ => k4 _ _ (by omega)) (fun j _ => k4 _ _ (by omega)) hR
/-- takeConditions' loop -/
theorem tcs_2 {m0 : PM} {N : Int} (H : CS μ) (hs : s = 22 ∨ s = 42) (hS : am_F μ 62 1 = s) (hX : XP X) (hn : 0 ≤ n ∧ n ≤ 2000) (hr : 0 ≤ r ∧ r < 60) : ∀ (q : Nat) (m : PM) (i : Nat) (vs : List (List Int)) (acc : List (Nat × Atm)), acc.length + q = 8 → CI t n X J s m i vs → RuI X s m r h0 acc → (∀ c j, ¬ WR s N r c j → m c j = m0 c j) → N ≤ m s 6 → CovC X s m N (m s 6) →
  Wp (d + 25) 62 (2, [some (.ref 62), some (.int (zI r)), some (.int (zI (acc.length : Int)))], [], sA μ m l) (pI (CsP t n X J s μ l m0 N r h0 (pCs t n q i vs acc)) noX) := by
  intro q
  induction q with
  | zero =>
    intro m i vs acc hl h hR fr hN hcv
    refine K62_2 H hs hS ⟨by unfold iR; omega, fun _ => ?_, fun z => absurd (by omega) z⟩
    exact tcs_32 H hs hS hR h fr hN hcv
  | succ q ih =>
    intro m i vs acc hl h hR fr hN hcv
    obtain ⟨hT, h2, h3, _⟩ := id h
    have hJ := hT.1
    have hc := ck_all t n i
    have e19 : m 19 (m 62 2) = ckK (tK t n i) := by rw [h2]; exact (hT.2.2.2 i h3).1
    refine K62_2 H hs hS ⟨by unfold iR; omega, fun z => absurd z (by omega), fun _ => ⟨by omega, by rw [e19]; exact hc.2.2.2.2, fun z => ?_, fun z => ?_⟩⟩
    · have hk : tK t n i = 2 := hc.2.1.mp (by rw [← e19]; exact z)
      have e : pCs t n (q + 1) i vs acc = if tK t n i = 2 then .inr (acc, i + 1, vs) else .inl i := by
        rw [pCs, if_pos hk, if_pos hk]
      rw [e]
      exact tcs_32 H hs hS hR h fr hN hcv
    · have hk : ¬ tK t n i = 2 := fun w => z (by rw [e19]; exact hc.2.1.mpr w)
      have e : pCs t n (q + 1) i vs acc = (match pCo t n i vs with
        | .inl x => .inl x
        | .inr (c, i', vs') => pCs t n q i' vs' (acc ++ [c])) := by
        rw [pCs, if_neg hk]
        all_goals rfl
      rw [e]
      refine ⟨_, noX, k_takeCond H hs hS hX hn hr (by omega) hR h, fun y μ' hy => ?_, fun _ _ z => z.elim⟩
      obtain ⟨x, m1, rfl, hx, rfl, hq1, hq2⟩ := hy
      have fr1 : ∀ c j, ¬ WR s N r c j → m1 c j = m0 c j := fun c j w => by rw [hq1 c j (by omega)]; exact fr c j w
      cases qq : pCo t n i vs with
      | inl e0 =>
        rw [qq] at hq2
        obtain ⟨a1, a2, a3⟩ := hq2
        exact K62_21 H hs hS ⟨hx, fun w => absurd a1 w, fun _ => ⟨0, m1, rfl, by decide, rfl, fr1, rfl, a2, a3⟩⟩
      | inr y =>
        obtain ⟨c, i', vs'⟩ := y
        rw [qq] at hq2
        obtain ⟨a1, a2, a3, a4, a5⟩ := hq2
        refine K62_21 H hs hS ⟨hx, fun _ => ?_, fun w => absurd (by omega) w⟩
        have el : (acc ++ [c]).length = acc.length + 1 := by simp
        have hz := ih m1 i' vs' (acc ++ [c]) (by omega) a2 a4 fr1 (by omega) (fun k k1 k2 => by
          by_cases y : k < m s 6
          · exact GdN_cg (N := m s 6) y (fun i _ => ⟨hq1 _ _ (by omega), hq1 _ _ (by omega), hq1 _ _ (by omega), hq1 _ _ (by omega)⟩) (fun i _ => hq1 _ _ (by omega)) (hcv k k1 y)
          · exact a5 k (by omega) k2)
        rw [el] at hz
        exact hz
/-- the parser's state between rules -/
def CB (t : Int → Int) (n : Int) (X : Int → List Int → Prop) (J s : Nat) (m : PM) (i : Nat) : Prop := TkE t n X J m ∧ m 62 2 = (i : Int) ∧ i ≤ J ∧ (0 ≤ m s 6 ∧ m s 6 ≤ (nt t n i : Int))
theorem CI_CB {m : PM} {i : Nat} {vs : List (List Int)} (h : CI t n X J s m i vs) : CB t n X J s m i := ⟨h.1, h.2.1, h.2.2.1, h.2.2.2.1⟩
/-- what reading a rule does -/
def RQ (t : Int → Int) (n : Int) (X : Int → List Int → Prop) (J s : Nat) (m : PM) (r : Int) (q : Nat ⊕ (Rul × Nat)) (x : Int) (m' : PM) : Prop :=
  (∀ c j, ¬ WR s (m s 6) r c j → m' c j = m c j) ∧ match q with
  | .inl e => x = 0 ∧ m' 62 2 = (e : Int) ∧ e ≤ J
  | .inr (ru, i') => x = 1 ∧ CB t n X J s m' i' ∧ m s 6 ≤ m' s 6 ∧ RuI X s m' r ru.1 ru.2 ∧ CovC X s m' (m s 6) (m' s 6)
abbrev RP (t : Int → Int) (n : Int) (X : Int → List Int → Prop) (J s : Nat) (μ : am_Mem) (l m : PM) (r : Int) (q : Nat ⊕ (Rul × Nat)) : Int32 → am_Mem → Prop := fun y μ' => ∃ (x : Int) (m' : PM), y = zI x ∧ iR x ∧ μ' = sA μ m' l ∧ RQ t n X J s m r q x m'
theorem ck_5 (t : Int → Int) (n : Int) (i : Nat) : (ckK (tK t n i) = 2 ↔ tK t n i = 5) ∧ (ckK (tK t n i) = 5 ↔ tK t n i = 0) := by
  rcases tK_k (t := t) (n := n) i with e | e | e | e | e | e | e
  all_goals rw [e]; decide
/-- takeRule from its head on -/
theorem tr_70 {m m0 : PM} {i : Nat} {w : Bool} (H : CS μ) (hs : s = 22 ∨ s = 42) (hS : am_F μ 62 1 = s) (hX : XP X) (hn : 0 ≤ n ∧ n ≤ 2000) (hr : 0 ≤ r ∧ r < 60) (h : CI t n X J s m i []) (e13 : m (s + 13) r = 0) (e16 : m (s + 16) r = 0) (h6 : m s 6 = m0 s 6) (fr : ∀ c j, ¬ WR s (m0 s 6) r c j → m c j = m0 c j) :
  Wp (d + 26) 56 (70, [some (.ref 62), some (.int (zI r)), some (.int (zI (if w then 1 else 0)))], [], sA μ m l) (pI (RP t n X J s μ l m0 r (if w then (match pAt t n 8 i [] with
    | .inl x => .inl x
    | .inr (h, i', vs') => match pCs t n 8 i' vs' [] with
      | .inl x => .inl x
      | .inr (cs, i'', _) => .inr ((h, cs), i'')) else (match pAt t n 9 i [] with
    | .inl x => .inl x
    | .inr (h, i', _) => .inr ((h, []), i')))) noX) := by
  have h60 := h.2.2.2.1
  have hd : ∀ {a : Atm} {i' : Nat} {vs' : List (List Int)} {x D : Int} {m1 : PM}, vbC a.2.flatten → (∀ c j, ¬ WC s (m s 6) D c j → m1 c j = m c j) → x = m s 6 + (a.2.flatten.length : Int) → CI t n X J s m1 i' vs' → m1 s 6 = x + 1 → NdC X s 11 m1 x (fun y => X y a.1) a.2 → RuI X s (up m1 (s + 11) r x) r a [] ∧ CI t n X J s (up m1 (s + 11) r x) i' vs' ∧ (∀ c j, ¬ WR s (m0 s 6) r c j → up m1 (s + 11) r x c j = m0 c j) ∧ m0 s 6 ≤ up m1 (s + 11) r x s 6 ∧ CovC X s (up m1 (s + 11) r x) (m0 s 6) (up m1 (s + 11) r x s 6) := by
    intro a i' vs' x D m1 hvb hq1 a1 a2 a3 a4
    have k : ∀ c j, ¬ (c = s + 11 ∧ j = r) → up m1 (s + 11) r x c j = m1 c j := fun c j q => up_o q
    have hA : AtC X s m1 (m1 s 6) x (1, a) := ⟨by omega, by show 0 ≤ x - (a.2.flatten.length : Int); omega, a4⟩
    refine ⟨⟨?_, ⟨?_, fun j hj => absurd hj (Nat.not_lt_zero j)⟩, ⟨?_, fun j hj => absurd hj (Nat.not_lt_zero j)⟩, Nat.zero_le _⟩, ?_, fun c j q => ?_, ?_, fun k' y1 y2 => cov_at (fun y hy => ⟨_, hy⟩) hvb (by omega) a4 (fun c j _ _ => k c j (by omega)) k' (by omega) (by rw [k s 6 (by omega)] at y2; omega)⟩
    · rw [up_s, k s 6 (by omega)]
      exact AtC_cg (Int.le_refl _) (fun i _ => ⟨k _ _ (by omega), k _ _ (by omega), k _ _ (by omega), k _ _ (by omega)⟩) (fun i _ => k _ _ (by omega)) hA
    · rw [k _ _ (by omega), hq1 _ _ (by omega), e13]; rfl
    · rw [k _ _ (by omega), hq1 _ _ (by omega), e16]; rfl
    · exact CI_cg a2 (fun j => k _ _ (by omega)) (fun j => k _ _ (by omega)) (fun j => k _ _ (by omega)) (k _ _ (by omega)) (k _ _ (by omega)) (fun j => k _ _ (by omega)) (by rw [k _ _ (by omega)]; exact a2.2.2.2.1)
    · rw [k c j (by omega), hq1 c j (by omega)]; exact fr c j q
    · rw [k _ _ (by omega)]; omega
  have hbad : ∀ {D : Int} {m1 : PM}, (∀ c j, ¬ WC s (m s 6) D c j → m1 c j = m c j) → ∀ c j, ¬ WR s (m0 s 6) r c j → up m1 (s + 11) r (-1) c j = m0 c j := by
    intro D m1 hq1 c j q
    rw [up_o (by omega), hq1 c j (by omega)]
    exact fr c j q
  cases w with
  | false =>
    refine K56_70 H hs hS ⟨by decide, fun v1 e1 => ?_⟩
    rw [if_pos (by decide)] at e1
    rw [e1]
    refine ⟨_, noX, tt_atom (d := d + 2) (dl := 9) (x1 := 0) H hs hS hX hn (by decide) (by decide) h, fun y μ' hy => ?_, fun _ _ z => z.elim⟩
    obtain ⟨x, m1, rfl, hx, rfl, hq1, hq2⟩ := hy
    cases qq : pAt t n 9 i [] with
    | inl e0 =>
      rw [qq] at hq2
      obtain ⟨a1, a2, a3⟩ := hq2
      rw [a1]
      refine K56_92 H hs hS ⟨hr, hr, by rw [up_s]; decide, fun z => absurd (up_s _ _ _ _) z, fun _ m2 e2 => ⟨0, m2, rfl, by decide, rfl, fun c j q => by rw [e2]; exact hbad hq1 c j q, rfl, ?_, a3⟩⟩
      rw [e2, up_o (by omega)]; exact a2
    | inr y =>
      obtain ⟨a, i', vs'⟩ := y
      rw [qq] at hq2
      obtain ⟨a1, a2, a3, a4⟩ := hq2
      obtain ⟨b1, b2, b3, b4, b5⟩ := hd (ok_vb (pAt_ok (by decide) (by decide) qq).1) hq1 a1 a2 a3 a4
      refine K56_92 H hs hS ⟨hr, hr, by rw [up_s]; exact hx, fun _ m2 e2 => ⟨by decide, fun _ => ?_, fun z => absurd (by decide) z⟩, fun z => absurd (by rw [up_s]; omega) z⟩
      rw [e2]
      exact ⟨1, _, rfl, by decide, rfl, b3, rfl, CI_CB b2, b4, b1, b5⟩
  | true =>
    refine K56_70 H hs hS ⟨by decide, fun v1 e1 => ?_⟩
    rw [if_neg (by decide)] at e1
    rw [e1]
    refine ⟨_, noX, tt_atom (d := d + 2) (dl := 8) (x1 := 1) H hs hS hX hn (by decide) (by decide) h, fun y μ' hy => ?_, fun _ _ z => z.elim⟩
    obtain ⟨x, m1, rfl, hx, rfl, hq1, hq2⟩ := hy
    cases qq : pAt t n 8 i [] with
    | inl e0 =>
      rw [qq] at hq2
      obtain ⟨a1, a2, a3⟩ := hq2
      rw [a1]
      refine K56_92 H hs hS ⟨hr, hr, by rw [up_s]; decide, fun z => absurd (up_s _ _ _ _) z, fun _ m2 e2 => ⟨0, m2, rfl, by decide, rfl, fun c j q => by rw [e2]; exact hbad hq1 c j q, rfl, ?_, a3⟩⟩
      rw [e2, up_o (by omega)]; exact a2
    | inr y =>
      obtain ⟨a, i', vs'⟩ := y
      rw [qq] at hq2
      obtain ⟨a1, a2, a3, a4⟩ := hq2
      obtain ⟨b1, b2, b3, b4, b5⟩ := hd (ok_vb (pAt_ok (by decide) (by decide) qq).1) hq1 a1 a2 a3 a4
      refine K56_92 H hs hS ⟨hr, hr, by rw [up_s]; exact hx, fun _ m2 e2 => ⟨by decide, fun z => absurd z (by decide), fun _ => ?_⟩, fun z => absurd (by rw [up_s]; omega) z⟩
      rw [e2]
      refine ⟨_, noX, K62_0 H hs hS (tcs_2 (m0 := m0) (N := m0 s 6) H hs hS hX hn hr 8 _ i' vs' [] rfl b2 b1 b3 b4 b5), fun y μ' hy => ?_, fun _ _ z => z.elim⟩
      obtain ⟨x', m3, rfl, hx', rfl, hr1, hr2⟩ := hy
      refine K56_117 H hs hS ⟨hx', fun v2 e3 => ?_⟩
      simp only
      cases qc : pCs t n 8 i' vs' [] with
      | inl e0 =>
        rw [qc] at hr2
        obtain ⟨c1, c2, c3⟩ := hr2
        rw [if_pos c1] at e3
        rw [e3]
        exact ⟨0, m3, rfl, by decide, rfl, hr1, rfl, c2, c3⟩
      | inr y =>
        obtain ⟨cs, i2, vs2⟩ := y
        rw [qc] at hr2
        obtain ⟨c1, c2, c3, c4, c5⟩ := hr2
        rw [if_neg (by omega)] at e3
        rw [e3]
        exact ⟨1, m3, rfl, by decide, rfl, hr1, rfl, CI_CB c2, c3, c4, c5⟩
/-- takeRule -/
theorem k_takeRule {m : PM} {i : Nat} (H : CS μ) (hs : s = 22 ∨ s = 42) (hS : am_F μ 62 1 = s) (hX : XP X) (hn : 0 ≤ n ∧ n ≤ 2000) (hr : 0 ≤ r ∧ r < 60) (h : CB t n X J s m i) :
  Wp (d + 26) 56 (0, [some (.ref 62), some (.int (zI r)), none], [], sA μ m l) (pI (RP t n X J s μ l m r (pRu t n i)) noX) := by
  obtain ⟨hT, h2, h3, h4⟩ := id h
  have hJ := hT.1
  have hc := ck_all t n i
  have hc1 := ck_all t n (i + 1)
  refine K56_0 H hs hS ⟨hr, fun m1 e1 m2 e2 => ?_⟩
  have k : ∀ c j, ¬ ((c = 62 ∧ j = 4) ∨ (c = s + 13 ∧ j = r) ∨ (c = s + 16 ∧ j = r)) → m2 c j = m c j := by
    intro c j q
    rw [e2, up_o (by omega), e1, up_o (by omega), up_o (by omega)]
  have k13 : m2 (s + 13) r = 0 := by rw [e2, up_o (by omega), e1, up_s]
  have k16 : m2 (s + 16) r = 0 := by rw [e2, up_s]
  have k4 : m2 62 4 = 0 := by rw [e2, up_o (by omega), e1, up_o (by omega), up_s]
  have hC : CI t n X J s m2 i [] := by
    refine ⟨TkE_cg (fun j => k _ _ (by omega)) (fun j => k _ _ (by omega)) (fun j => k _ _ (by omega)) hT, by rw [k _ _ (by omega)]; exact h2, h3, by rw [k _ _ (by omega)]; exact h4, ?_, by rw [k4]; rfl, fun j hj => absurd hj (Nat.not_lt_zero j)⟩
    refine ⟨by omega, by omega, fun i a b => absurd b (by omega), fun i j a b c => absurd c (by omega)⟩
  have e62 : m2 62 2 = m 62 2 := k _ _ (by omega)
  have e19 : m2 19 (m2 62 2) = ckK (tK t n i) := by rw [e62, k _ _ (by omega), h2]; exact (hT.2.2.2 i h3).1
  have h6 : m2 s 6 = m s 6 := k _ _ (by omega)
  have hlt : tK t n i = 1 → m 19 (m 62 2 + 1) = ckK (tK t n (i + 1)) ∧ i < J := by
    intro k1
    have := CI_lt hC (by omega)
    refine ⟨?_, this⟩
    rw [show m 62 2 + 1 = ((i + 1 : Nat) : Int) by omega]
    exact (hT.2.2.2 (i + 1) (by omega)).1
  refine ⟨by omega, by rw [e19]; exact hc.2.2.2.2, ⟨fun _ => trivial, fun z => ?_⟩, fun v3 e3 => ?_⟩
  · have k1 : tK t n i = 1 := hc.1.mp (by rw [← e19]; exact Decidable.byContradiction z)
    exact ⟨by have := (hlt k1).2; omega, by rw [(hlt k1).1]; exact hc1.2.2.2.2, trivial⟩
  by_cases ar : tK t n i = 1 ∧ tK t n (i + 1) = 5
  · have ev : v3 = 1 := by
      rw [e3, e19, if_neg (not_not_intro (hc.1.mpr ar.1)), (hlt ar.1).1, if_neg (not_not_intro ((ck_5 t n (i + 1)).1.mpr ar.2))]
    rw [ev]
    refine ⟨fun z => absurd z (by decide), fun _ m4 e4 => ?_⟩
    rw [← e62] at e4
    have hC4 := CI_adv2 hs hC (CI_lt1 hC (by omega) (by omega))
    rw [← e4] at hC4
    have k5 : ∀ c j, ¬ (c = 62 ∧ j = 2) → m4 c j = m2 c j := fun c j q => by rw [e4]; exact up_o q
    unfold pRu
    rw [if_pos ar]
    exact tr_70 (w := true) H hs hS hX hn hr hC4 (by rw [k5 _ _ (by omega)]; exact k13) (by rw [k5 _ _ (by omega)]; exact k16) (by rw [k5 _ _ (by omega)]; exact h6) (fun c j q => by rw [k5 c j (by omega)]; exact k c j (by omega))
  · have ev : v3 = 0 := by
      rw [e3, e19]
      by_cases k1 : tK t n i = 1
      · rw [if_neg (not_not_intro (hc.1.mpr k1)), (hlt k1).1, if_pos (fun z => ar ⟨k1, (ck_5 t n (i + 1)).1.mp z⟩)]
      · rw [if_pos (fun z => k1 (hc.1.mp z))]
    rw [ev]
    refine ⟨fun _ => ?_, fun z => absurd (by decide) z⟩
    unfold pRu
    rw [if_neg ar]
    exact tr_70 (w := false) H hs hS hX hn hr hC k13 k16 h6 (fun c j q => k c j (by omega))
end CPH
