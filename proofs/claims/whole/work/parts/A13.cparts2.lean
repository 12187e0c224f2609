/-! ===== the class's parser: takeParts, term after term ===== -/
/-- node k has a label and these parts -/
def NdC (X : Int → List Int → Prop) (s f : Nat) (m : PM) (k : Int) (L : Int → Prop) (ps : List (List Cd)) : Prop := L (m (s + 6) k) ∧ m (s + 7) k = (ps.length : Int) ∧ m (s + 10) k = (vmC ps.flatten : Int) ∧ m (s + 9) k = k - (ps.flatten.length : Int) ∧ ps.length ≤ 4 ∧ PcR (TcR X s f m) (m (s + 8)) (4 * k) 0 (k - (ps.flatten.length : Int)) ps
/-- what a call that reads parts does -/
def PaQ (t : Int → Int) (n : Int) (X : Int → List Int → Prop) (J s : Nat) (m0 : PM) (f : Nat) (N D : Int) (L : Int → Prop) (r : Rd (List (List Cd))) (x : Int) (m' : PM) : Prop :=
  (∀ c j, ¬ WC s N D c j → m' c j = m0 c j) ∧ match r with
  | .inl e => x = -1 ∧ m' 62 2 = (e : Int) ∧ e ≤ J
  | .inr (ps, i', vs') => x = N + (ps.flatten.length : Int) ∧ CI t n X J s m' i' vs' ∧ m' s 6 = x + 1 ∧ NdC X s f m' x L ps
abbrev PaP (t : Int → Int) (n : Int) (X : Int → List Int → Prop) (J s : Nat) (μ : am_Mem) (l m0 : PM) (f : Nat) (N D : Int) (L : Int → Prop) (r : Rd (List (List Cd))) : Int32 → am_Mem → Prop := fun y μ' => ∃ (x : Int) (m' : PM), y = zI x ∧ iR x ∧ μ' = sA μ m' l ∧ PaQ t n X J s m0 f N D L r x m'
theorem PcR_fr {X : Int → List Int → Prop} {s f : Nat} {m m' : PM} {r r' : Int → Int} {w w' k : Int} {ps : List (List Cd)} (hr : ∀ i : Nat, i < ps.length → r' (w' + i) = r (w + i)) (h1 : ∀ i, k ≤ i → i < k + (ps.flatten.length : Int) → m' (s + 6) i = m (s + 6) i ∧ m' (s + 7) i = m (s + 7) i ∧ m' (s + 9) i = m (s + 9) i ∧ m' (s + 10) i = m (s + 10) i) (h2 : ∀ i, 4 * k ≤ i → i < 4 * (k + (ps.flatten.length : Int)) → m' (s + 8) i = m (s + 8) i) (h : PcR (TcR X s f m) r w 0 k ps) : PcR (TcR X s f m') r' w' 0 k ps :=
  PcR_cg ps 0 k (fun i _ hi => hr i (by omega)) (fun x p q1 q2 q3 => TcR_cg (fun _ _ z => z) f x p (fun i a b => h1 i (by omega) (by omega)) (fun i a b => h2 i (by omega) (by omega)) q3) h
section CPC
variable {t : Int → Int} {n : Int} {X : Int → List Int → Prop} {J : Nat} {d : Nat} {μ : am_Mem} {m l : PM} {s : Nat} {i : Nat} {vs : List (List Int)}
theorem CI_cg {m' : PM} (h : CI t n X J s m i vs) (e19 : ∀ j, m' 19 j = m 19 j) (e20 : ∀ j, m' 20 j = m 20 j) (e21 : ∀ j, m' 21 j = m 21 j) (e2 : m' 62 2 = m 62 2) (e4 : m' 62 4 = m 62 4) (e63 : ∀ j, m' 63 j = m 63 j) (e6 : 0 ≤ m' s 6 ∧ m' s 6 ≤ (nt t n i : Int)) : CI t n X J s m' i vs := by
  obtain ⟨hT, h2, h3, h4, h5, h6, h7⟩ := h
  refine ⟨TkE_cg e19 e20 e21 hT, by rw [e2]; exact h2, h3, e6, ?_, by rw [e4]; exact h6, fun j hj => by rw [e63]; exact h7 j hj⟩
  unfold CV
  rw [e4, show m' 63 = m 63 from funext e63]
  exact h5
theorem tp_65 {f : Nat} {x1 x3 x4 N D : Int} {o7 : Option Value} {L : Int → Prop} {m0 : PM} {acc : List (List Cd)} (H : CS μ) (hs : s = 22 ∨ s = 42) (hS : am_F μ 62 1 = s) (hn : 0 ≤ n ∧ n ≤ 2000) (hD : 0 ≤ D ∧ D ≤ 10) (hL : L x1) (hx1 : 0 ≤ x1 ∧ x1 < 2048) (h : CI t n X J s m i vs) (fr : ∀ c j, ¬ WC s N D c j → m c j = m0 c j) (hN : 0 ≤ N) (eN : m s 6 = N + (acc.flatten.length : Int)) (hP : PcR (TcR X s f m) (m 64) (4 * D) 0 N acc) (hv : ∀ i : Nat, i < acc.length → vmC (acc.getD i []) < 256) (h4 : acc.length ≤ 4) (hr : m s 6 + 1 ≤ (nt t n i : Int)) :
  Wp (d + 1) 60 (65, [some (.ref 62), some (.int (zI x1)), some (.int (zI D)), some (.int (zI x3)), some (.int (zI x4)), some (.int (zI (acc.length : Int))), some (.int (zI (acc.length : Int))), o7], [], sA μ m l) (pI (PaP t n X J s μ l m0 f N D L (if tK t n i = 2 then .inr (acc, i + 1, vs) else .inl i)) noX) := by
  obtain ⟨hT, h2, h3, _⟩ := id h
  have hJ := hT.1
  have hc := ck_all t n i
  have hl := nt_le (t := t) hn i
  have e19 : m 19 (m 62 2) = ckK (tK t n i) := by rw [h2]; exact (hT.2.2.2 i h3).1
  refine K60_65 H hs hS ⟨fun y μ' => (y = zI 0 ∧ ¬ tK t n i = 2 ∧ μ' = sA μ m l) ∨ (y = zI 1 ∧ tK t n i = 2 ∧ μ' = sA μ (up m 62 2 (m 62 2 + 1)) l), noX, k_close H hs hS (by omega) (by rw [e19]; exact hc.2.2.2.2) (fun z => Or.inl ⟨rfl, fun w => z (by rw [e19]; exact hc.2.1.mpr w), rfl⟩) (fun z => Or.inr ⟨rfl, hc.2.1.mp (by rw [← e19]; exact z), rfl⟩), fun y μ' hy => ?_, fun _ _ z => z.elim⟩
  rcases hy with ⟨rfl, hk, rfl⟩ | ⟨rfl, hk, rfl⟩
  · rw [if_neg hk]
    exact K60_69 H hs hS ⟨by decide, fun _ => ⟨-1, m, rfl, by decide, rfl, fr, rfl, h2, h3⟩, fun z => absurd rfl z⟩
  rw [if_pos hk]
  have hlt := CI_lt h (by omega)
  have hC := CI_adv hs h hlt
  have k : ∀ c j, ¬ (c = 62 ∧ j = 2) → up m 62 2 (m 62 2 + 1) c j = m c j := fun c j q => up_o q
  generalize up m 62 2 (m 62 2 + 1) = m1 at hC k ⊢
  have e64 : m1 64 = m 64 := funext fun j => k _ _ (by omega)
  have hA : ∀ i : Nat, i < acc.length → ∃ x, m 64 (4 * D + (i : Int)) = x ∧ N ≤ x ∧ x < N + (acc.flatten.length : Int) ∧ m (s + 10) x = (vmC (acc.getD i []) : Int) ∧ (i = 0 → m (s + 9) x = N) := by
    intro i hi
    obtain ⟨x, b1, b2, b3, b4, b5⟩ := PcR_at acc 0 N hP i hi
    have b6 := TcR_top b4
    rw [show ((0 + i : Nat) : Int) = (i : Int) by omega] at b1
    exact ⟨x, b1, by omega, by omega, b6.2.1, fun z => by rw [b6.2.2]; exact b5 z⟩
  refine K60_69 H hs hS ⟨by decide, fun z => absurd z (by decide), fun _ => ⟨PaP t n X J s μ l m0 f N D L (.inr (acc, i + 1, vs)), noX, ?_, fun y μ' hy => ?_, fun _ _ z => z.elim⟩⟩
  · refine k_addNode (N := m s 6) (x2 := acc.length) (v0 := 0) (V := fun i => vmC (acc.getD i [])) H hs (k _ _ (by omega)) (by omega) (by unfold iR; omega) h4 (by omega) (fun i hi => ?_) (by decide) (by rw [if_pos hx1.1]; rfl) (fun i hi => ?_) ?_
    · obtain ⟨x, b1, b2, b3, _⟩ := hA i hi
      rw [e64, b1]
      omega
    · obtain ⟨x, b1, b2, b3, b4, _⟩ := hA i hi
      refine ⟨hv i hi, ?_⟩
      rw [e64, b1, k _ _ (by omega)]
      exact b4
    intro m' b1 b2 b3 b4 b5 b6 b7
    have hm := nt_m t n i
    have ev : orV (fun i => vmC (acc.getD i [])) 0 acc.length = vmC acc.flatten := by
      rw [orV_vm 0 acc acc.length (Nat.le_refl _), List.take_length, Nat.zero_or]
    refine ⟨m s 6, m', rfl, by unfold iR; omega, rfl, fun c j q => ?_, eN, ?_, b6, ?_, b2, by rw [b4, ev], ?_, h4, ?_⟩
    · rw [b7 c j (by omega), k c j (by omega)]
      exact fr c j q
    · exact CI_cg hC (fun j => b7 _ _ (by omega)) (fun j => b7 _ _ (by omega)) (fun j => b7 _ _ (by omega)) (b7 _ _ (by omega)) (b7 _ _ (by omega)) (fun j => b7 _ _ (by omega)) (by omega)
    · rw [b1]; exact hL
    · rw [b3]
      by_cases c : acc.length = 0
      · rw [if_pos c]
        have : acc = [] := List.eq_nil_of_length_eq_zero c
        rw [this]
        show m s 6 = m s 6 - ((0 : Nat) : Int)
        omega
      · rw [if_neg c]
        obtain ⟨x, c1, c2, c3, _, c5⟩ := hA 0 (by omega)
        rw [show (4 * D + ((0 : Nat) : Int)) = 4 * D by omega] at c1
        rw [e64, c1, k _ _ (by omega), c5 rfl]
        omega
    · rw [show m s 6 - (acc.flatten.length : Int) = N by omega]
      refine PcR_fr (fun i hi => ?_) (fun i a b => ⟨?_, ?_, ?_, ?_⟩) (fun i a b => ?_) hP
      · rw [b5 i hi, e64]
      · rw [b7 _ _ (by omega), k _ _ (by omega)]
      · rw [b7 _ _ (by omega), k _ _ (by omega)]
      · rw [b7 _ _ (by omega), k _ _ (by omega)]
      · rw [b7 _ _ (by omega), k _ _ (by omega)]
      · rw [b7 _ _ (by omega), k _ _ (by omega)]
  · obtain ⟨x', m', rfl, hx', rfl, hq⟩ := hy
    exact K60_89 H hs hS ⟨x', m', rfl, hx', rfl, hq⟩
/-- takeParts: term after term up to a closing parenthesis -/
theorem tp_6 {dl mn mx : Nat} {x1 N : Int} {L : Int → Prop} {m0 : PM} (H : CS μ) (hs : s = 22 ∨ s = 42) (hS : am_F μ 62 1 = s) (hn : 0 ≤ n ∧ n ≤ 2000) (hdl : dl ≤ 9) (hSim : SimC t n X J s μ l d dl) (hL : L x1) (hx1 : 0 ≤ x1 ∧ x1 < 2048) (hmn : mn ≤ mx) (hmx : mx ≤ 4) (hN : 0 ≤ N) :
  ∀ (r : Nat) (m : PM) (i : Nat) (vs : List (List Int)) (acc : List (List Cd)) (o7 : Option Value), acc.length + r = mx → CI t n X J s m i vs → (∀ c j, ¬ WC s N (10 - (dl : Int)) c j → m c j = m0 c j) → m s 6 = N + (acc.flatten.length : Int) → PcR (TcR X s (dl + 1) m) (m 64) (4 * (10 - (dl : Int))) 0 N acc → (∀ i : Nat, i < acc.length → vmC (acc.getD i []) < 256) → m s 6 + 1 ≤ (nt t n i : Int) →
  Wp (d + 1) 60 (6, [some (.ref 62), some (.int (zI x1)), some (.int (zI (10 - (dl : Int)))), some (.int (zI (mn : Int))), some (.int (zI (mx : Int))), some (.int (zI (acc.length : Int))), some (.int (zI (acc.length : Int))), o7], [], sA μ m l) (pI (PaP t n X J s μ l m0 (dl + 1) N (10 - (dl : Int)) L (pPs (tK t n) (pT t n dl) mn r i vs acc)) noX) := by
  intro r
  induction r with
  | zero =>
    intro m i vs acc o7 hl h fr eN hP hv hr
    refine K60_6 H hs hS ⟨by unfold iR; omega, by unfold iR; omega, fun _ => ?_, fun z => absurd (by omega) z⟩
    have e : pPs (tK t n) (pT t n dl) mn 0 i vs acc = if tK t n i = 2 then .inr (acc, i + 1, vs) else .inl i := by
      unfold pPs
      by_cases c : tK t n i = 2
      · rw [if_pos ⟨c, by omega⟩, if_pos c]
      · rw [if_neg (fun z => c z.1), if_neg c]
    rw [e]
    exact tp_65 H hs hS hn (by omega) hL hx1 h fr hN eN hP hv (by omega) hr
  | succ r ih =>
    intro m i vs acc o7 hl h fr eN hP hv hr
    obtain ⟨hT, h2, h3, h4, h5, h6, h7⟩ := id h
    have hJ := hT.1
    have hc := ck_all t n i
    have e19 : m 19 (m 62 2) = ckK (tK t n i) := by rw [h2]; exact (hT.2.2.2 i h3).1
    have go : ¬ (tK t n i = 2 ∧ mn ≤ acc.length) → Wp (d + 1) 60 (27, [some (.ref 62), some (.int (zI x1)), some (.int (zI (10 - (dl : Int)))), some (.int (zI (mn : Int))), some (.int (zI (mx : Int))), some (.int (zI (acc.length : Int))), some (.int (zI (acc.length : Int))), o7], [], sA μ m l) (pI (PaP t n X J s μ l m0 (dl + 1) N (10 - (dl : Int)) L (pPs (tK t n) (pT t n dl) mn (r + 1) i vs acc)) noX) := by
      intro hno
      have e : pPs (tK t n) (pT t n dl) mn (r + 1) i vs acc = (match pT t n dl i vs with
        | .inl x => .inl x
        | .inr (c, i', vs') => pPs (tK t n) (pT t n dl) mn r i' vs' (acc ++ [c])) := by
        rw [pPs, if_neg hno]
        all_goals rfl
      rw [e]
      refine K60_27 H hs hS ⟨_, noX, hSim m i vs h, fun y μ' hy => ?_, fun _ _ z => z.elim⟩
      obtain ⟨x, m', rfl, hx, rfl, hq1, hq2⟩ := hy
      cases q : pT t n dl i vs with
      | inl e0 =>
        rw [q] at hq2
        obtain ⟨a1, a2, a3⟩ := hq2
        refine K60_33 H hs hS ⟨hx, fun z => absurd a1 z, fun _ => ⟨-1, m', rfl, by decide, rfl, fun c j w => ?_, rfl, a2, a3⟩⟩
        rw [hq1 c j (by omega)]
        exact fr c j w
      | inr y =>
        obtain ⟨cs, i', vs'⟩ := y
        rw [q] at hq2
        obtain ⟨a1, a2, a3, a4, a5⟩ := hq2
        have hnt := pT_nt dl i vs cs i' vs' q
        have hvm := pT_vm dl i vs cs i' vs' (by have := h5.2.1; omega) q
        refine K60_33 H hs hS ⟨hx, fun _ => ⟨by omega, fun m2 e2 => ?_⟩, fun z => absurd (by omega) z⟩
        have k2 : ∀ c j, ¬ (c = 64 ∧ j = 4 * (10 - (dl : Int)) + (acc.length : Int)) → m2 c j = m' c j := fun c j w => by rw [e2]; exact up_o w
        have ef : (acc ++ [cs]).flatten.length = acc.flatten.length + cs.length := by simp
        have el : (acc ++ [cs]).length = acc.length + 1 := by simp
        have e6 : m2 s 6 = m s 6 + (cs.length : Int) := by rw [k2 _ _ (by omega)]; exact a4
        have hC2 : CI t n X J s m2 i' vs' := CI_cg a3 (fun j => k2 _ _ (by omega)) (fun j => k2 _ _ (by omega)) (fun j => k2 _ _ (by omega)) (k2 _ _ (by omega)) (k2 _ _ (by omega)) (fun j => k2 _ _ (by omega)) (by omega)
        have hz := ih m2 i' vs' (acc ++ [cs]) (some (.int (zI x))) (by omega) hC2 (fun c j w => ?_) (by omega) ?_ ?_ (by omega)
        · rw [el] at hz
          exact hz
        · rw [k2 c j (by omega), hq1 c j (by omega)]
          exact fr c j w
        · refine PcR_snoc acc 0 N (PcR_fr (fun j hj => ?_) (fun j b1 b2 => ⟨?_, ?_, ?_, ?_⟩) (fun j b1 b2 => ?_) hP) ?_ ?_
          · rw [k2 _ _ (by omega), hq1 _ _ (by omega)]
          · rw [k2 _ _ (by omega), hq1 _ _ (by omega)]
          · rw [k2 _ _ (by omega), hq1 _ _ (by omega)]
          · rw [k2 _ _ (by omega), hq1 _ _ (by omega)]
          · rw [k2 _ _ (by omega), hq1 _ _ (by omega)]
          · rw [k2 _ _ (by omega), hq1 _ _ (by omega)]
          · rw [show ((0 + acc.length : Nat) : Int) = (acc.length : Int) by omega, e2, up_s]
            omega
          · have ex : N + (acc.flatten.length : Int) + (cs.length : Int) - 1 = x := by omega
            rw [ex]
            exact TcR_cg (fun _ _ z => z) (dl + 1) x cs (fun j _ _ => ⟨k2 _ _ (by omega), k2 _ _ (by omega), k2 _ _ (by omega), k2 _ _ (by omega)⟩) (fun j _ _ => k2 _ _ (by omega)) a5
        · intro j hj
          by_cases c : j = acc.length
          · rw [c, List.getD_eq_getElem?_getD, List.getElem?_append_right (Nat.le_refl _)]
            simpa using hvm.1
          · rw [List.getD_eq_getElem?_getD, List.getElem?_append_left (by omega), ← List.getD_eq_getElem?_getD]
            exact hv j (by omega)
    refine K60_6 H hs hS ⟨by unfold iR; omega, by unfold iR; omega, fun z => absurd z (by omega), fun _ => ⟨by unfold iR; omega, fun z => go (fun w => by omega), fun z => ⟨by omega, by rw [e19]; exact hc.2.2.2.2, fun z1 => ?_, fun z1 => go (fun w => z1 (by rw [e19]; exact hc.2.1.mpr w.1))⟩⟩⟩
    have hk : tK t n i = 2 := hc.2.1.mp (by rw [← e19]; exact z1)
    have e : pPs (tK t n) (pT t n dl) mn (r + 1) i vs acc = if tK t n i = 2 then .inr (acc, i + 1, vs) else .inl i := by
      rw [pPs, if_pos ⟨hk, by omega⟩, if_pos hk]
    rw [e]
    exact tp_65 H hs hS hn (by omega) hL hx1 h fr hN eN hP hv (by omega) hr
end CPC
