/-! ===== the class's terms: keep whole ===== -/
/-- the terms that are needed stand again up to t: Tn of them -/
def KpI (X : Int → List Int → Prop) (q N S : Nat) (L : List (List Cd)) (M T : Nat) (m0 mC m : PM) (Tn t : Nat) : Prop :=
  (CtT X q N S m Tn ∧ M ≤ Tn ∧ Tn ≤ t) ∧ (∀ u : Nat, t ≤ u → u < T → m q (u : Int) = m0 q (u : Int) ∧ m (q + 1) (u : Int) = m0 (q + 1) (u : Int) ∧ ∀ k : Nat, k < 4 → m (q + 2) (4 * (u : Int) + k) = m0 (q + 2) (4 * (u : Int) + k)) ∧ (∀ (u : Nat) (cs : List Cd), u < M → Cg X q m0 u cs → Cg X q m u cs) ∧ ((∀ u : Nat, t ≤ u → u < T → m (q + 6) (u : Int) = mC (q + 6) (u : Int)) ∧ ∀ u : Nat, M ≤ u → u < t → mC (q + 6) (u : Int) = 0 → ∃ v : Nat, m (q + 6) (u : Int) = (v : Int) ∧ v < Tn ∧ ∀ cs, Cg X q m0 u cs → Cg X q m v cs) ∧ (∀ v : Nat, M ≤ v → v < Tn → ∃ p, Cg X q m v p ∧ (∃ c, c ∈ L ∧ Sub p c) ∧ inC p = true) ∧ ∀ c j, ¬ (c = 93 ∨ (q ≤ c ∧ c ≤ q + 7) ∨ (c = 84 ∧ j = 9)) → m c j = m0 c j
/-- what keeping writes -/
abbrev WKp (q r1 c : Nat) (j : Int) : Prop := c = r1 ∨ c = 93 ∨ (q ≤ c ∧ c ≤ q + 7) ∨ (c = 84 ∧ j = 9)
section CKW
variable {d : Nat} {Q : Option Value ⊕ Nat → am_Mem → Prop} {X : Int → List Int → Prop} {μ : am_Mem} {l : PM} {T q N P S a r1 L1 M : Nat}
theorem NmS_cg {m m' : PM} (k : ∀ c j, c = a + 2 ∨ c = a + 3 → m' c j = m c j) (h : NmS X a m) : NmS X a m' := fun x w hx => by
  obtain ⟨c1, c2, c3, c4⟩ := h x w hx
  exact ⟨c1, by rw [k _ _ (Or.inr rfl), k _ _ (Or.inr rfl)]; exact c2, by rw [k _ _ (Or.inr rfl)]; exact c3, fun i hi => by rw [k (a + 3) _ (Or.inr rfl), k (a + 2) _ (Or.inl rfl)]; exact c4 i hi⟩
theorem wct_q {Tn c : Nat} {j : Int} (h : ¬ ((q ≤ c ∧ c ≤ q + 7 ∧ ¬ c = q + 6) ∨ (c = 84 ∧ j = 9))) : ¬ WCt q Tn c j := by omega
theorem wct_u {Tn u : Nat} (h : ¬ u = Tn) (hq : TQ q N P S) : ¬ WCt q Tn q u ∧ ¬ WCt q Tn (q + 1) u ∧ ∀ k : Nat, k < 4 → ¬ WCt q Tn (q + 2) (4 * (u : Int) + k) := ⟨by omega, by omega, fun k hk => by omega⟩
theorem k_keep {m0 : PM} {L : List (List Cd)} (H : CS μ) (TS_ : TS μ q N P S) (hq : TQ q N P S) (ha : a = 23 ∨ a = 43) (h0 : am_F μ 84 0 = a) (hX : XP X) (hN : NmS X a m0) (hI : CtT X q N S m0 T) (hM : M ≤ T) (k1 : am_kd μ r1 = (2, L1)) (b1 : L1 ≤ 2000) (hr1 : 94 ≤ r1 ∧ r1 < 185) (hb : L.length ≤ L1) (hrow : RwC X q m0 T r1 0 L) (hg : ∀ p, p ∈ L → GdC p) (hN0 : ∀ p, p ∈ L → ∀ w, ((0, w) : Cd) ∈ p → ∃ u : Nat, u < M ∧ Cg X q m0 u [(0, w)])
    (hk : ∀ (m' : PM) (T' : Nat), M ≤ T' → T' ≤ T → T' ≤ M + (L.map nIn).sum → CtT X q N S m' T' → RwC X q m' T' r1 0 L → (∀ t cs, t < M → Cg X q m0 t cs → Cg X q m' t cs) → (∀ c j, ¬ WKp q r1 c j → m' c j = m0 c j) → Q (.inl none) (sA μ m' l)) :
    Wp (d + 3) 94 (0, [some (.ref 84), some (.ref r1), some (.int (zI (L.length : Int))), some (.int (zI (M : Int))), none, none, none], [], sA μ m0 l) Q := by
  have hTN := hI.1.2.1
  have h58 : N ≤ 58192 := by omega
  refine kp_flags H TS_ hq ha h0 hI hM k1 b1 hr1 hb hrow hg (fun mC o6 hC => ?_)
  obtain ⟨⟨hf1, hf2⟩, hCl, hCp⟩ := hC
  have hCT : CtT X q N S mC T := CtT_f6 (fun c j z => hf2 c j (by omega)) hI
  refine ⟨_, noX, k_tcut (d := d + 2) (M := M) H TS_ hq hCT.1 hM, fun μ' ho => ?_, fun _ _ z => z.elim⟩
  obtain ⟨mD, rfl, hD, fD⟩ := ho
  have hDT : CtT X q N S mD M := CtT_cg (P := P) hM hCT hD (fun c j z => fD c j (by omega))
  show Wp (d + 3) 94 (126, _, [], _) Q
  refine K94_126 H TS_ hq ha h0 k1 b1 ?_
  -- the list's new numbers
  have fin : ∀ (m : PM) (Tn : Nat) (o6 : Option Value), KpI X q N S L M T m0 mC m Tn T → Wp (d + 3) 94 (226, [some (.ref 84), some (.ref r1), some (.int (zI (L.length : Int))), some (.int (zI (M : Int))), some (.int (zI (T : Int))), some (.int (zI 0)), o6], [], sA μ m l) Q := by
    intro m Tn o6 ⟨⟨a1, a2, a3⟩, _, a5, ⟨_, a7⟩, a8, a9⟩
    have hcount : Tn ≤ M + (L.map nIn).sum := by
      obtain ⟨As, s1, s2⟩ := subs_all L hg
      have hc : ∀ i : Nat, ∃ p : List Cd, i < Tn - M → Cg X q m (M + i) p ∧ p ∈ As.filter inC := fun i => by
        by_cases y : i < Tn - M
        · obtain ⟨p, p1, ⟨c, c1, c2⟩, p3⟩ := a8 (M + i) (by omega) (by omega)
          exact ⟨p, fun _ => ⟨p1, List.mem_filter.mpr ⟨s1 c c1 p c2, p3⟩⟩⟩
        · exact ⟨[], fun z => absurd z y⟩
      obtain ⟨g, hgf⟩ := Classical.axiomOfChoice hc
      have nd : ((List.range (Tn - M)).map g).Nodup := by
        refine List.pairwise_map.mpr (List.Pairwise.imp_of_mem (R := fun a b => a ≠ b) (fun {x y} hx hy hne e => hne ?_) List.nodup_range)
        have h1 := (hgf x (List.mem_range.mp hx)).1
        have h2 := (hgf y (List.mem_range.mp hy)).1
        rw [e] at h1
        have hx' := List.mem_range.mp hx
        have hy' := List.mem_range.mp hy
        have := Cg_in hX a1.2.1 (by omega) (by omega) h1 h2
        omega
      have := List.Nodup.length_le_of_subset nd (l₂ := As.filter inC) (fun p hp => by
        obtain ⟨i, hi, e⟩ := List.mem_map.mp hp
        rw [← e]
        exact (hgf i (List.mem_range.mp hi)).2)
      rw [List.length_map, List.length_range, s2] at this
      omega
    have loop : ∀ (g i : Nat) (m1 : PM), i + g = L.length → (∀ c j, ¬ c = r1 → m1 c j = m c j) → (∀ j : Nat, j < i → ∃ v : Nat, m1 r1 (j : Int) = (v : Int) ∧ v < Tn ∧ Cg X q m v (L.getD j [])) → (∀ j : Nat, i ≤ j → j < L.length → m1 r1 (j : Int) = m0 r1 (j : Int)) → Wp (d + 3) 94 (226, [some (.ref 84), some (.ref r1), some (.int (zI (L.length : Int))), some (.int (zI (M : Int))), some (.int (zI (T : Int))), some (.int (zI (i : Int))), o6], [], sA μ m1 l) Q := by
      intro g
      induction g with
      | zero =>
        intro i m1 hi f1 hd hr
        have cg1 : ∀ t cs, t < Tn → Cg X q m t cs → Cg X q m1 t cs := fun t cs ht h => CgR_cg (T := Tn) (fun t _ => ⟨f1 _ _ (by omega), f1 _ _ (by omega), fun i _ => f1 _ _ (by omega)⟩) _ t cs ht h
        refine K94_226 H TS_ hq ha h0 k1 b1 ⟨⟨by omega, by omega⟩, ⟨by omega, by omega⟩, fun _ => ?_, fun z => absurd (by omega) z⟩
        refine hk m1 Tn a2 a3 hcount (CtT_fr (fun c j z => f1 c j (by omega)) a1) (fun j hj => ?_) (fun t cs ht h => cg1 t cs (by omega) (a5 t cs ht h)) (fun c j z => (f1 c j (fun e => z (Or.inl e))).trans (a9 c j (fun y => z (Or.inr y))))
        obtain ⟨v, v1, v2, v3⟩ := hd j (by omega)
        exact ⟨v, by rw [show (0 : Int) + (j : Int) = (j : Int) by omega]; exact v1, v2, cg1 _ _ v2 v3⟩
      | succ g ih =>
        intro i m1 hi f1 hd hr
        have hil : i < L.length := by omega
        obtain ⟨u, u1, u2, u3⟩ := hrow i hil
        rw [show (0 : Int) + (i : Int) = (i : Int) by omega] at u1
        have e1 : m1 r1 (i : Int) = (u : Int) := (hr i (Nat.le_refl _) hil).trans u1
        refine K94_226 H TS_ hq ha h0 k1 b1 ⟨⟨by omega, by omega⟩, ⟨by omega, by omega⟩, fun z => absurd z (by omega), fun _ => ?_⟩
        rw [e1]
        refine ⟨⟨by omega, by omega⟩, fun y μ' => Wp (d + 3) 94 (244, [some (.ref 84), some (.ref r1), some (.int (zI (L.length : Int))), some (.int (zI (M : Int))), some (.int (zI (T : Int))), some (.int (zI (i : Int))), o6], [.int y, .int (zI (i : Int)), .ref r1], μ') Q, noX, ?_, fun _ _ z => z, fun _ _ z => z.elim⟩
        refine K96_0 (d := d + 2) (Q := pI _ noX) H TS_ hq ⟨⟨by omega, by omega⟩, ⟨by omega, by omega⟩, ⟨fun _ => ⟨⟨by omega, by omega⟩, trivial⟩, fun _ => trivial⟩, fun v1 ev1 => ?_⟩
        show Wp (d + 3) 94 (244, _, [.int (zI v1), .int (zI (i : Int)), .ref r1], _) Q
        obtain ⟨v, hv1, hv2, hv3⟩ : ∃ v : Nat, v1 = (v : Int) ∧ v < Tn ∧ Cg X q m v (L.getD i []) := by
          by_cases y : (M : Int) ≤ (u : Int)
          · rw [if_pos y, f1 _ _ (by omega)] at ev1
            obtain ⟨v, w1, w2, w3⟩ := a7 u (by omega) u2 (hCl i hil u u1 (by omega))
            exact ⟨v, ev1.trans w1, w2, w3 _ u3⟩
          · rw [if_neg y] at ev1
            exact ⟨u, ev1, by omega, a5 u _ (by omega) u3⟩
        rw [hv1]
        refine K94_244 H TS_ hq ha h0 k1 b1 ⟨⟨by omega, by omega⟩, fun m2 e2 => ?_⟩
        have go := ih (i + 1) m2 (by omega) (fun c j z => by rw [e2, up_c z]; exact f1 c j z) (fun j hj => by
          by_cases y : j = i
          · exact ⟨v, by rw [y, e2, up_s], hv2, by rw [y]; exact hv3⟩
          · obtain ⟨v', w1, w2, w3⟩ := hd j (by omega)
            exact ⟨v', by rw [e2, up_i (by omega)]; exact w1, w2, w3⟩) (fun j j1 j2 => by rw [e2, up_i (by omega)]; exact hr j (by omega) j2)
        rw [show ((i + 1 : Nat) : Int) = (i : Int) + 1 by omega] at go
        exact go
    exact loop L.length 0 m (by omega) (fun _ _ _ => rfl) (fun j hj => absurd hj (Nat.not_lt_zero j)) (fun j _ hj => a9 _ _ (by omega))
  -- the terms from the mark on
  have up_ : ∀ (g t : Nat) (m : PM) (Tn : Nat) (o6 : Option Value), t + g = T → M ≤ t → KpI X q N S L M T m0 mC m Tn t → Wp (d + 3) 94 (129, [some (.ref 84), some (.ref r1), some (.int (zI (L.length : Int))), some (.int (zI (M : Int))), some (.int (zI (T : Int))), some (.int (zI (t : Int))), o6], [], sA μ m l) Q := by
    intro g
    induction g with
    | zero =>
      intro t m Tn o6 ht hMt h
      rw [show t = T by omega] at h ⊢
      exact K94_129 H TS_ hq ha h0 k1 b1 ⟨⟨by omega, by omega⟩, ⟨by omega, by omega⟩, fun _ => fin m Tn o6 h, fun z => absurd (by omega) z⟩
    | succ g ih =>
      intro t m Tn o6 ht hMt h
      obtain ⟨⟨a1, a2, a3⟩, a4, a5, ⟨a6, a7⟩, a8, a9⟩ := id h
      have htT : t < T := by omega
      have e6 := a6 t (Nat.le_refl _) htT
      have hfl := hf1 t hMt htT
      refine K94_129 H TS_ hq ha h0 k1 b1 ⟨⟨by omega, by omega⟩, ⟨by omega, by omega⟩, fun z => absurd z (by omega), fun _ => ⟨⟨by omega, by omega⟩, by
        rw [e6]
        rcases hfl with e | e
        · rw [e]; exact ⟨by decide, by decide⟩
        · rw [e.1]; exact ⟨by decide, by decide⟩, fun z => ?_, fun z => ?_⟩⟩
      · rw [e6] at z
        have go := ih (t + 1) m Tn o6 (by omega) (by omega) ⟨⟨a1, a2, by omega⟩, fun u u1 u2 => a4 u (by omega) u2, a5, ⟨fun u u1 u2 => a6 u (by omega) u2, fun u u1 u2 u3 => a7 u u1 (by
          by_cases y : u = t
          · rw [y, z] at u3
            exact absurd u3 (by decide)
          · omega) u3⟩, a8, a9⟩
        rw [show ((t + 1 : Nat) : Int) = (t : Int) + 1 by omega] at go
        exact go
      · rw [e6] at z
        obtain ⟨z0, p, hp, c, hc, hs⟩ : mC (q + 6) (t : Int) = 0 ∧ ∃ p, Cg X q m0 t p ∧ ∃ c, c ∈ L ∧ Sub p c := by
          rcases hfl with e | e
          · exact absurd e z
          · exact e
        obtain ⟨w, ps, g1, g2, g3, g4, g5⟩ := id hp
        obtain ⟨b0, b1', b2⟩ := a4 t (Nat.le_refl _) htT
        obtain ⟨n1, n2, n3, n4⟩ := hN _ _ g3
        have loop : ∀ (h k : Nat) (m1 : PM), k + h = ps.length → (∀ c j, ¬ c = 93 → m1 c j = m c j) → (∀ j : Nat, j < k → ∃ v : Nat, m1 93 (j : Int) = (v : Int) ∧ v < Tn ∧ Cg X q m v (ps.getD j [])) → Wp (d + 3) 94 (150, [some (.ref 84), some (.ref r1), some (.int (zI (L.length : Int))), some (.int (zI (M : Int))), some (.int (zI (T : Int))), some (.int (zI (t : Int))), some (.int (zI (k : Int)))], [], sA μ m1 l) Q := by
          intro h
          induction h with
          | zero =>
            intro k m1 hk' f1 hd
            have e1 : m1 (q + 1) (t : Int) = (ps.length : Int) := (f1 _ _ (by omega)).trans (b1'.trans g4)
            have e0 : m1 q (t : Int) = m0 q (t : Int) := (f1 _ _ (by omega)).trans b0
            have cg1 : ∀ t cs, t < Tn → Cg X q m t cs → Cg X q m1 t cs := fun t cs ht h => CgR_cg (T := Tn) (fun t _ => ⟨f1 _ _ (by omega), f1 _ _ (by omega), fun i _ => f1 _ _ (by omega)⟩) _ t cs ht h
            refine K94_150 H TS_ hq ha h0 k1 b1 ⟨⟨by omega, by omega⟩, ⟨by omega, by omega⟩, by rw [e1]; exact ⟨by omega, by omega⟩, fun _ => ?_, fun y => absurd (by rw [e1]; omega) y⟩
            rw [e1, e0]
            refine ⟨fun y μ' => Wp (d + 3) 94 (216, [some (.ref 84), some (.ref r1), some (.int (zI (L.length : Int))), some (.int (zI (M : Int))), some (.int (zI (T : Int))), some (.int (zI (t : Int))), some (.int (zI (k : Int)))], [.int y, .int (zI (t : Int)), .ref (q + 6)], μ') Q, noX, ?_, fun _ _ z => z, fun _ _ z => z.elim⟩
            refine k_tmk2 (d := d + 2) (Q := pI _ noX) H TS_ hq ha h0 hX (CtT_fr (fun c j z => f1 c j (by omega)) a1) (by omega) g3 n1.2 (by rw [f1 _ _ (by omega), f1 _ _ (by omega), a9 _ _ (by omega), a9 _ _ (by omega)]; exact n2) g2 (fun j hj => by
              obtain ⟨v, v1, v2, v3⟩ := hd j (by omega)
              exact ⟨v, v1, v2, cg1 _ _ v2 v3⟩) (fun m2 T2 t2 y1 y2 y3 y4 y5 y6 y7 => ?_)
            show Wp (d + 3) 94 (216, _, [.int (zI (t2 : Int)), .int (zI (t : Int)), .ref (q + 6)], _) Q
            refine K94_216 H TS_ hq ha h0 k1 b1 ⟨⟨by omega, by omega⟩, fun m3 e3 => ?_⟩
            have f3 : ∀ c j, ¬ c = q + 6 → m3 c j = m2 c j := fun c j z => by rw [e3, up_c z]
            have cg2 : ∀ u cs, u < Tn → Cg X q m u cs → Cg X q m3 u cs := fun u cs hu h => CgR_cg (T := Tn) (fun u hu => by
              have z := wct_u (Tn := Tn) (u := u) (by omega) hq
              exact ⟨((f3 _ _ (by omega)).trans (y7 _ _ z.1)).trans (f1 _ _ (by omega)), ((f3 _ _ (by omega)).trans (y7 _ _ z.2.1)).trans (f1 _ _ (by omega)), fun i hi => ((f3 _ _ (by omega)).trans (y7 _ _ (z.2.2 i hi))).trans (f1 _ _ (by omega))⟩) _ u cs hu h
            have cg3 : ∀ u cs, u < T2 → Cg X q m2 u cs → Cg X q m3 u cs := fun u cs hu h => CgR_cg (T := T2) (fun u _ => ⟨f3 _ _ (by omega), f3 _ _ (by omega), fun i _ => f3 _ _ (by omega)⟩) _ u cs hu h
            have o6' : ∀ u : Nat, ¬ u = t → m3 (q + 6) (u : Int) = m (q + 6) (u : Int) := fun u hu => by
              rw [e3, up_i (by omega), y7 _ _ (by omega), f1 _ _ (by omega)]
            have s6 : m3 (q + 6) (t : Int) = (t2 : Int) := by rw [e3, up_s]
            have go := ih (t + 1) m3 T2 (some (.int (zI (k : Int)))) (by omega) (by omega) ⟨⟨CtT_f6 (fun c j z => f3 c j (by omega)) y5, by omega, by omega⟩, fun u u1 u2 => ?_, fun u cs hu h => cg2 u cs (by omega) (a5 u cs hu h), ⟨fun u u1 u2 => (o6' u (by omega)).trans (a6 u (by omega) u2), fun u u1 u2 u3 => ?_⟩, fun v v1 v2 => ?_, fun c j z => ?_⟩
            · rw [show ((t + 1 : Nat) : Int) = (t : Int) + 1 by omega] at go
              exact go
            · obtain ⟨x0, x1, x2⟩ := a4 u (by omega) u2
              have z := wct_u (Tn := Tn) (u := u) (by omega) hq
              exact ⟨(((f3 _ _ (by omega)).trans (y7 _ _ z.1)).trans (f1 _ _ (by omega))).trans x0, (((f3 _ _ (by omega)).trans (y7 _ _ z.2.1)).trans (f1 _ _ (by omega))).trans x1, fun i hi => (((f3 _ _ (by omega)).trans (y7 _ _ (z.2.2 i hi))).trans (f1 _ _ (by omega))).trans (x2 i hi)⟩
            · by_cases y : u = t
              · refine ⟨t2, by rw [y]; exact s6, y4, fun cs hcs => ?_⟩
                rw [y] at hcs
                rw [CgR_fun hX _ _ _ _ _ hcs hp, g1]
                exact cg3 _ _ y4 y6
              · obtain ⟨v, w1, w2, w3⟩ := a7 u u1 (by omega) u3
                exact ⟨v, (o6' u y).trans w1, by omega, fun cs hcs => cg2 _ _ w2 (w3 cs hcs)⟩
            · by_cases y : v < Tn
              · obtain ⟨p', q1, q2, q3⟩ := a8 v v1 y
                exact ⟨p', cg2 _ _ y q1, q2, q3⟩
              · have ev : v = t2 := by omega
                have et : t2 = Tn := by omega
                refine ⟨p, by rw [ev, g1]; exact cg3 _ _ y4 y6, ⟨c, hc, hs⟩, ?_⟩
                rw [g1]
                refine decide_eq_true (Nat.pos_of_ne_zero fun hz => ?_)
                have ep : ps = [] := List.eq_nil_of_length_eq_zero hz
                have hpw : p = [(0, w)] := by rw [g1, ep]; rfl
                obtain ⟨f, hf⟩ := hs
                obtain ⟨u, u1, u2⟩ := hN0 c hc w (Sub_nm f p c hf (by rw [hpw]; exact List.mem_cons_self))
                have hn := cg2 u _ (by omega) (a5 u _ u1 u2)
                have hn2 := cg3 _ _ y4 y6
                rw [← g1, hpw] at hn2
                have := Cg_in hX (CtT_f6 (fun c j z => f3 c j (by omega)) y5 : CtT X q N S m3 T2).2.1 (by omega) y4 hn hn2
                omega
            · rw [f3 c j (by omega), y7 c j (wct_q (by omega)), f1 c j (by omega)]
              exact a9 c j z
          | succ h ihh =>
            intro k m1 hk' f1 hd
            have hkl : k < ps.length := by omega
            obtain ⟨u, u1, u2, u3⟩ := g5 k hkl
            have e1 : m1 (q + 1) (t : Int) = (ps.length : Int) := (f1 _ _ (by omega)).trans (b1'.trans g4)
            have e2 : m1 (q + 2) (4 * (t : Int) + (k : Int)) = (u : Int) := (f1 _ _ (by omega)).trans ((b2 k (by omega)).trans u1)
            refine K94_150 H TS_ hq ha h0 k1 b1 ⟨⟨by omega, by omega⟩, ⟨by omega, by omega⟩, by rw [e1]; exact ⟨by omega, by omega⟩, fun y => absurd y (by rw [e1]; omega), fun _ => ?_⟩
            rw [e2]
            refine ⟨⟨by omega, by omega⟩, fun y μ' => Wp (d + 3) 94 (185, [some (.ref 84), some (.ref r1), some (.int (zI (L.length : Int))), some (.int (zI (M : Int))), some (.int (zI (T : Int))), some (.int (zI (t : Int))), some (.int (zI (k : Int)))], [.int y, .int (zI (k : Int)), .ref 93], μ') Q, noX, ?_, fun _ _ z => z, fun _ _ z => z.elim⟩
            refine K96_0 (d := d + 2) (Q := pI _ noX) H TS_ hq ⟨⟨by omega, by omega⟩, ⟨by omega, by omega⟩, ⟨fun _ => ⟨⟨by omega, by omega⟩, trivial⟩, fun _ => trivial⟩, fun v1 ev1 => ?_⟩
            show Wp (d + 3) 94 (185, _, [.int (zI v1), .int (zI (k : Int)), .ref 93], _) Q
            obtain ⟨v, hv1, hv2, hv3⟩ : ∃ v : Nat, v1 = (v : Int) ∧ v < Tn ∧ Cg X q m v (ps.getD k []) := by
              by_cases y : (M : Int) ≤ (u : Int)
              · rw [if_pos y, f1 _ _ (by omega)] at ev1
                obtain ⟨v, w1, w2, w3⟩ := a7 u (by omega) u2 (hCp t hMt htT z0 k (by omega) u u1 (by omega))
                exact ⟨v, ev1.trans w1, w2, w3 _ (Cg_of _ _ _ u3)⟩
              · rw [if_neg y] at ev1
                exact ⟨u, ev1, by omega, a5 u _ (by omega) (Cg_of _ _ _ u3)⟩
            rw [hv1]
            refine K94_185 H TS_ hq ha h0 k1 b1 ⟨⟨by omega, by omega⟩, fun m2 e2' => ?_⟩
            have go := ihh (k + 1) m2 (by omega) (fun c j z => by rw [e2', up_c z]; exact f1 c j z) (fun j hj => by
              by_cases y : j = k
              · exact ⟨v, by rw [y, e2', up_s], hv2, by rw [y]; exact hv3⟩
              · obtain ⟨v', w1, w2, w3⟩ := hd j (by omega)
                exact ⟨v', by rw [e2', up_i (by omega)]; exact w1, w2, w3⟩)
            rw [show ((k + 1 : Nat) : Int) = (k : Int) + 1 by omega] at go
            exact go
        exact loop ps.length 0 m (by omega) (fun _ _ _ => rfl) (fun j hj => absurd hj (Nat.not_lt_zero j))
  refine up_ (T - M) M mD M _ (by omega) (Nat.le_refl _) ⟨⟨hDT, Nat.le_refl _, Nat.le_refl _⟩, fun u u1 u2 => ⟨(fD _ _ (by omega)).trans (hf2 _ _ (by omega)), (fD _ _ (by omega)).trans (hf2 _ _ (by omega)), fun k hk => (fD _ _ (by omega)).trans (hf2 _ _ (by omega))⟩, fun u cs hu h => CgR_cg (T := M) (fun t _ => ⟨(fD _ _ (by omega)).trans (hf2 _ _ (by omega)), (fD _ _ (by omega)).trans (hf2 _ _ (by omega)), fun k hk => (fD _ _ (by omega)).trans (hf2 _ _ (by omega))⟩) _ u cs hu h, ⟨fun u u1 u2 => fD _ _ (by omega), fun u u1 u2 => absurd u2 (by omega)⟩, fun v v1 v2 => absurd v2 (by omega), fun c j z => (fD c j (by omega)).trans (hf2 c j (by omega))⟩
end CKW
