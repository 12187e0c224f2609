/-! ===== the reference: gatherMoves ===== -/
/-- a role's moves in their rows -/
def MvR (m : PM) (r : Nat) (mv : List (List Cd)) : Prop := m 173 (r : Int) = (mv.length : Int) ∧ mv.length ≤ 1000 ∧ ∀ q : Nat, q < mv.length → TxR m 174 (49049 * (r : Int) + 49 * (q : Int)) (mv.getD q []) ∧ GdT m (mv.getD q []) ∧ tlC (mv.getD q []) ≤ 48
theorem MvR_cg {m m' : PM} {r : Nat} {mv : List (List Cd)} (hr : r < 4) (k : ∀ c j, ((c = 173 ∧ j = (r : Int)) ∨ (c = 174 ∧ 49049 * (r : Int) ≤ j ∧ j < 49049 * (r : Int) + 49049) ∨ c = 129 ∨ c = 130 ∨ (c = 125 ∧ j = 9)) → m' c j = m c j) (h : MvR m r mv) : MvR m' r mv := by
  obtain ⟨h1, h2, h3⟩ := h
  refine ⟨by rw [k _ _ (by omega)]; exact h1, h2, fun q hq => ?_⟩
  obtain ⟨a1, a2, a3⟩ := h3 q hq
  exact ⟨fun j hj => by rw [k _ _ (by omega)]; exact a1 j hj, GdT_cg (k _ _ (by omega)) (fun i => k _ _ (by omega)) (fun i => k _ _ (by omega)) a2, a3⟩
/-- what gathering moves writes -/
abbrev WGm (T : Nat) (c : Nat) (j : Int) : Prop := WMd T c j ∨ c = 166 ∨ c = 167 ∨ c = 173 ∨ c = 174 ∨ c = 176 ∨ (c = 125 ∧ j = 80)
section RGM
variable {d : Nat} {μ : am_Mem} {l : PM} {Q : Option Value ⊕ Nat → am_Mem → Prop} {T : Nat} {W : Int → Nat} {rs : List Rul} {S : List Atm}
/-- an atom of two terms -/
theorem two_of {m : PM} (hw : WkR W rs m T S) {x : Int} {w : List Int} (hx : nX m x w) (hW2 : W x = 2) {k : Nat} (hk : k < S.length) (hkw : (S.getD k ([], [])).1 = w) : ∃ (s t : List Cd) (u v : Nat), S.getD k ([], []) = (w, [s, t]) ∧ m 155 (4 * (k : Int)) = (u : Int) ∧ u < T ∧ Tg m u s ∧ m 155 (4 * (k : Int) + 1) = (v : Int) ∧ v < T ∧ Tg m v t := by
  obtain ⟨a1, a2, a3⟩ := hw.2.2.2.2.2.1 k hk
  rw [(WkR_is hw hx hk).mpr hkw, hW2] at a2
  cases hsk : S.getD k ([], []) with
  | mk b ps =>
    rw [hsk] at a2 a3 hkw
    have a2 : ps.length = 2 := a2
    have hb : b = w := hkw
    cases ps with
    | nil => exact absurd a2 (by decide)
    | cons s ps =>
      cases ps with
      | nil => exact absurd (show 1 = 2 from a2) (by decide)
      | cons t ps =>
        cases ps with
        | cons y ps => rw [List.length_cons, List.length_cons, List.length_cons] at a2; omega
        | nil =>
          obtain ⟨u, u1, u2, u3⟩ := a3 0 (by show 0 < 2; decide)
          obtain ⟨v, v1, v2, v3⟩ := a3 1 (by show 1 < 2; decide)
          rw [show 4 * (k : Int) + ((0 : Nat) : Int) = 4 * (k : Int) by omega] at u1
          exact ⟨s, t, u, v, by rw [hb], u1, u2, u3, v1, v2, v3⟩
theorem c_gatherMoves {m0 : PM} {L : List (List Cd)} (H : RS μ) (hw0 : WkR W rs m0 T S) (hnd : S.Nodup) (h48 : ∀ a, a ∈ S → ∀ p, p ∈ a.2 → tlC p ≤ 48 ∧ NeC p) (hW6 : W 6 = 2) (hL : RlR m0 L) (hT : T + 5000 ≤ 130000)
    (hok : ∀ (m' : PM) (T' : Nat) (mv : Nat → List (List Cd)), T ≤ T' → T' ≤ T + 4000 → WkR W rs m' T' S → (∀ r, r < L.length → SrT (mv r) ∧ (∀ t, t ∈ mv r ↔ ((wdL.getD 6 [], [L.getD r [], t]) : Atm) ∈ S) ∧ MvR m' r (mv r)) → (∀ c j, ¬ WGm T c j → m' c j = m0 c j) → Q (.inl none) (sA μ m' l)) :
    Wp (d + 4) 243 (0, [some (.ref 125), none, none, none], [], sA μ m0 l) Q := by
  have hL4 := hL.2.1
  have hS1000 := hw0.2.2.2.2.1.2.1
  have roles : ∀ (f r : Nat) (m : PM) (T1 : Nat) (mv : Nat → List (List Cd)) (o2 o3 : Option Value), r + f = L.length → T ≤ T1 → T1 ≤ T + 1000 * r → WkR W rs m T1 S → (∀ q, q < r → SrT (mv q) ∧ (∀ t, t ∈ mv q ↔ ((wdL.getD 6 [], [L.getD q [], t]) : Atm) ∈ S) ∧ MvR m q (mv q)) → (∀ c j, ¬ WGm T c j → m c j = m0 c j) → Wp (d + 4) 243 (2, [some (.ref 125), some (.int (zI (r : Int))), o2, o3], [], sA μ m l) Q := by
    intro f
    induction f with
    | zero =>
      intro r m T1 mv o2 o3 hr t1 t2 hw hmv fr
      have e70 : m 125 70 = (L.length : Int) := by rw [fr _ _ (by omega)]; exact hL.1
      have er : r = L.length := by omega
      rw [er] at hmv
      exact R243_2 H ⟨⟨by omega, by omega⟩, by rw [e70]; exact ⟨by omega, by omega⟩, fun _ => hok m T1 mv t1 (by omega) hw hmv fr, fun z => by omega⟩
    | succ f ih =>
      intro r m T1 mv o2 o3 hr t1 t2 hw hmv fr
      have e70 : m 125 70 = (L.length : Int) := by rw [fr _ _ (by omega)]; exact hL.1
      have hlt : r < L.length := by omega
      obtain ⟨l1, l2, l3, l4⟩ := hL.2.2.2 r hlt
      refine R243_2 H ⟨⟨by omega, by omega⟩, by rw [e70]; exact ⟨by omega, by omega⟩, fun z => by omega, fun _ => ⟨fun y μ' => Wp (d + 4) 243 (15, [some (.ref 125), some (.int (zI (r : Int))), o2, o3], [.int y], μ') Q, noX, ?_, fun _ _ z => z, fun _ _ z => z.elim⟩⟩
      refine c_roleTerm (d := d) (Q := pI _ noX) (T := T1) (cs := L.getD r []) H (WkR_tb hw) (by omega) (GdT_cg (fr _ _ (by omega)) (fun i => fr _ _ (by omega)) (fun i => fr _ _ (by omega)) l2) l3 (fun i hi => by rw [fr _ _ (by omega)]; exact l1 i hi) (by omega) (by omega) (fun m1 T2 ur t3 t4 b1 ur1 ur2 f1 => ?_)
      have w1 : WkR W rs m1 T2 S := WkR_up hw t3 b1 (fun c i z => f1 c i (by omega))
      have fr1 : ∀ c j, ¬ WGm T c j → m1 c j = m0 c j := fun c j z => by rw [f1 c j (by omega)]; exact fr c j z
      have hmv1 : ∀ q, q < r → SrT (mv q) ∧ (∀ t, t ∈ mv q ↔ ((wdL.getD 6 [], [L.getD q [], t]) : Atm) ∈ S) ∧ MvR m1 q (mv q) := fun q hq => ⟨(hmv q hq).1, (hmv q hq).2.1, MvR_cg (by omega) (fun c j z => f1 c j (by omega)) (hmv q hq).2.2⟩
      have hx6 : nX m1 6 (wdL.getD 6 []) := ⟨by decide, by have := b1.2.2.2.2.1.2.1; omega, b1.2.2.2.2.1.2.2 6 (by decide)⟩
      have hT2 := w1.2.1.2.1
      have tT1 : T ≤ T2 := Nat.le_trans t1 t3
      have tT2 : T2 ≤ T + 1000 * (r + 1) := by
        rw [Nat.mul_succ]
        have q1 : T2 ≤ T1 + 1000 := Nat.le_trans t4 (Nat.add_le_add_left l4 _)
        rw [← Nat.add_assoc]
        exact Nat.le_trans q1 (Nat.add_le_add_right t2 1000)
      refine R243_15 H ⟨⟨by omega, by omega⟩, ?_⟩
      rintro m2 e2
      have f2 : ∀ c j, ¬ (c = 173 ∧ j = (r : Int)) → m2 c j = m1 c j := fun c j z => by rw [e2]; exact up_o z
      have inner : ∀ (g k : Nat) (x3 : Int) (m : PM) (M : List (List Cd)), k + g = S.length → CuA S (wdL.getD 6 []) x3 k → (∀ c j, ¬ (c = 166 ∨ c = 176 ∨ (c = 125 ∧ j = 80) ∨ (c = 173 ∧ j = (r : Int)) ∨ (c = 174 ∧ 49049 * (r : Int) ≤ j ∧ j < 49049 * (r : Int) + 49049)) → m c j = m1 c j) → m 173 (r : Int) = (M.length : Int) → SrT M → M.length ≤ k → (∀ t, t ∈ M ↔ ((wdL.getD 6 [], [L.getD r [], t]) : Atm) ∈ S.take k) → (∀ q : Nat, q < M.length → TxR m 174 (49049 * (r : Int) + 49 * (q : Int)) (M.getD q []) ∧ GdT m (M.getD q []) ∧ tlC (M.getD q []) ≤ 48) → Wp (d + 4) 243 (31, [some (.ref 125), some (.int (zI (r : Int))), some (.int (zI (ur : Int))), some (.int (zI x3))], [], sA μ m l) Q := by
        intro g
        induction g using Nat.strongRecOn with
        | _ g ihg =>
          intro k x3 m M hk hcu frm h173 hM hlen hmem hs
          have b : TbR m T2 := TbR_cg (fun c j z => frm c j (by omega)) (fun j => by rw [frm _ _ (by omega)]; exact b1.1.2.2.1 j) b1
          rcases hcu with ⟨e1, e2'⟩ | ⟨e1, e2', e3⟩
          · rw [e2', List.take_length] at hmem
            refine R243_31 H ⟨by rw [e1]; exact ⟨by decide, by decide⟩, fun _ => ?_, fun z => by omega⟩
            have wm : WkR W rs m T2 S := by
              refine WkR_cg (fun c j z => frm c j (by omega)) (fun j => by rw [frm _ _ (by omega)]; exact b1.1.2.2.1 j) (fun j => by rw [frm _ _ (by omega)]; exact w1.2.2.2.2.2.2 j) w1
            have go := ih (r + 1) m T2 (fun q => if q = r then M else mv q) (some (.int (zI (ur : Int)))) (some (.int (zI x3))) (by omega) tT1 tT2 wm (fun q hq => by
              by_cases y : q = r
              · show SrT (if q = r then M else mv q) ∧ _
                simp only [if_pos y]
                rw [y]
                exact ⟨hM, hmem, h173, by omega, hs⟩
              · show SrT (if q = r then M else mv q) ∧ _
                simp only [if_neg y]
                exact ⟨(hmv1 q (by omega)).1, (hmv1 q (by omega)).2.1, MvR_cg (by omega) (fun c j z => frm c j (by omega)) (hmv1 q (by omega)).2.2⟩) (fun c j z => by rw [frm c j (by omega)]; exact fr1 c j z)
            rw [show ((r + 1 : Nat) : Int) = (r : Int) + 1 by omega] at go
            exact go
          · obtain ⟨s, t, u, v, q1, q2, q3, q4, q5, q6, q7⟩ := two_of w1 hx6 hW6 e2' e3
            have hSk : ((wdL.getD 6 [], [s, t]) : Atm) ∈ S := by rw [← q1]; exact gA_mem e2'
            have ht48 := h48 _ hSk t (by simp)
            have tk1 : S.take (k + 1) = S.take k ++ [(wdL.getD 6 [], [s, t])] := by rw [take_a e2', q1]
            have e155 : m 155 (4 * (k : Int)) = (u : Int) := by rw [frm _ _ (by omega)]; exact q2
            have e1551 : m 155 (4 * (k : Int) + 1) = (v : Int) := by rw [frm _ _ (by omega)]; exact q5
            obtain ⟨k', cu', k1, k2', c2, mm⟩ := cu_next w1 hx6 e2' e3
            have e156 : ∀ {m' : PM}, (∀ c j, ¬ (c = 166 ∨ c = 176 ∨ (c = 125 ∧ j = 80) ∨ (c = 173 ∧ j = (r : Int)) ∨ (c = 174 ∧ 49049 * (r : Int) ≤ j ∧ j < 49049 * (r : Int) + 49049)) → m' c j = m1 c j) → m' 156 (k : Int) = m1 156 (k : Int) := fun {m'} fr' => fr' _ _ (by omega)
            rw [e1]
            refine R243_31 H ⟨⟨by omega, by omega⟩, fun z => by omega, fun _ => ⟨⟨by omega, by omega⟩, by rw [e155]; exact ⟨by omega, by omega⟩, ⟨by omega, by omega⟩, fun z => ⟨⟨by omega, by omega⟩, ?_⟩, fun z => ⟨⟨by omega, by omega⟩, ?_⟩⟩⟩
            · /- another role's -/
              have hne : ¬ s = L.getD r [] := fun e => z (by
                rw [e155]
                rw [e] at q4
                rw [Tg_in b1.2.1 b1.2.2.2.2.1 q3 ur1 q4 ur2])
              rw [e156 frm]
              refine ihg (S.length - k') (by omega) k' _ m M (by omega) cu' frm h173 hM (by omega) (fun t' => ?_) hs
              rw [hmem t', mm, tk1, List.mem_append, List.mem_singleton]
              refine ⟨Or.inl, fun y => ?_⟩
              rcases y with y | y
              · exact y
              · exact absurd (List.cons.inj (congrArg Prod.snd y)).1.symm hne
            · /- a move of the role -/
              have es : s = L.getD r [] := by
                have z' : m 155 (4 * (k : Int)) = (ur : Int) := Classical.byContradiction z
                have eu : u = ur := by omega
                rw [eu] at q4
                exact TgR_fun _ _ _ _ _ q4 ur2
              rw [es] at tk1 hSk q1
              have hnot : ¬ t ∈ M := fun z' => by
                have := (hmem t).mp z'
                rw [← q1] at this
                exact tk_no hnd e2' this
              have v4 : Tg m v t := TgR_cg (T := T2) (frm _ _ (by omega)) (fun i => frm _ _ (by omega)) (fun i => frm _ _ (by omega)) (fun t ht => ⟨frm _ _ (by omega), frm _ _ (by omega), fun i _ => frm _ _ (by omega)⟩) _ v _ q6 q7
              rw [e1551]
              refine ⟨_, _, c_writeA (d := d + 3) (l := l) H b q6 v4 ht48.1 ht48.2, fun μ' hp => ?_, fun _ _ z => z.elim⟩
              obtain ⟨m3, rfl, hr3, f3⟩ := hp
              have gt : GdT m3 t := GdT_cg (f3 _ _ (by omega)) (fun i => f3 _ _ (by omega)) (fun i => f3 _ _ (by omega)) (GdT_Tg v4 ht48.2)
              have g48 := GdT_48 gt ht48.1
              have e173 : m3 173 (r : Int) = (M.length : Int) := by rw [f3 _ _ (by omega)]; exact h173
              have hs3 : ∀ q : Nat, q < M.length → TxR m3 174 (49049 * (r : Int) + 49 * (q : Int)) (M.getD q []) ∧ GdT m3 (M.getD q []) ∧ (tx (M.getD q [])).length ≤ 48 := fun q hq => by
                obtain ⟨c1, c2, c3⟩ := hs q hq
                have g2 : GdT m3 (M.getD q []) := GdT_cg (f3 _ _ (by omega)) (fun i => f3 _ _ (by omega)) (fun i => f3 _ _ (by omega)) c2
                exact ⟨fun j hj => by rw [f3 _ _ (by omega)]; exact c1 j hj, g2, (GdT_48 g2 c3).1⟩
              refine R243_61 H ⟨⟨by omega, by omega⟩, fun y μ' => Wp (d + 4) 243 (80, [some (.ref 125), some (.int (zI (r : Int))), some (.int (zI (ur : Int))), some (.int (zI (k : Int)))], [.int y], μ') Q, noX, ?_, fun _ _ z => z, fun _ _ z => z.elim⟩
              rw [e173]
              refine c_insert (d := d + 2) (Q := pI _ noX) (Or.inr rfl) (rK_174 H) (by decide) H gt g48.1 hr3 hM (by omega) hs3 hnot ⟨by omega, by omega⟩ (fun m4 k4 hk4 hsr htx f4 => ?_)
              have e173' : m4 173 (r : Int) = (M.length : Int) := by rw [f4 _ _ (by omega)]; exact e173
              refine R243_80 H ⟨⟨by omega, by omega⟩, ?_⟩
              rintro m5 e5
              rw [e173'] at e5
              have f5 : ∀ c j, ¬ (c = 173 ∧ j = (r : Int)) → m5 c j = m4 c j := fun c j z => by rw [e5]; exact up_o z
              have fr5 : ∀ c j, ¬ (c = 166 ∨ c = 176 ∨ (c = 125 ∧ j = 80) ∨ (c = 173 ∧ j = (r : Int)) ∨ (c = 174 ∧ 49049 * (r : Int) ≤ j ∧ j < 49049 * (r : Int) + 49049)) → m5 c j = m1 c j := fun c j z => by rw [f5 c j (by omega), f4 c j (by omega), f3 c j (by omega)]; exact frm c j z
              refine ⟨⟨by omega, by omega⟩, ?_⟩
              have e1564 : m4 156 (k : Int) = m1 156 (k : Int) := by rw [← f5 _ _ (by omega)]; exact e156 fr5
              rw [e1564]
              refine ihg (S.length - k') (by omega) k' _ m5 (insL k4 t M) (by omega) cu' fr5 (by rw [e5, up_s, insL_len hk4]; omega) hsr (by rw [insL_len hk4]; omega) (fun t' => ?_) (fun q hq => ?_)
              · rw [insL_mem, mm, tk1, List.mem_append, List.mem_singleton, hmem t']
                constructor
                · rintro (y | y)
                  · exact Or.inr (by rw [y])
                  · exact Or.inl y
                · rintro (y | y)
                  · exact Or.inr y
                  · exact Or.inl (List.cons.inj (List.cons.inj (congrArg Prod.snd y)).2).1
              · rw [insL_len hk4] at hq
                have hg : GdT m1 ((insL k4 t M).getD q []) ∧ tlC ((insL k4 t M).getD q []) ≤ 48 := by
                  have hm : (insL k4 t M).getD q [] ∈ insL k4 t M := by
                    rw [List.getD_eq_getElem?_getD, List.getElem?_eq_getElem (by rw [insL_len hk4]; exact hq)]
                    exact List.getElem_mem _
                  rcases insL_mem.mp hm with e | hm
                  · rw [e]; exact ⟨GdT_Tg q7 ht48.2, ht48.1⟩
                  · obtain ⟨q', hq', eq'⟩ := mem_gD2 hm
                    rw [← eq']
                    exact ⟨GdT_cg (frm _ _ (by omega)).symm (fun i => (frm _ _ (by omega)).symm) (fun i => (frm _ _ (by omega)).symm) (hs q' hq').2.1, (hs q' hq').2.2⟩
                refine ⟨fun j hj => ?_, GdT_cg (fr5 _ _ (by omega)) (fun i => fr5 _ _ (by omega)) (fun i => fr5 _ _ (by omega)) hg.1, hg.2⟩
                rw [f5 _ _ (by omega)]
                exact htx q hq j hj
      obtain ⟨k, cu, c0, no⟩ := cu_first w1 hx6
      have hkS : k ≤ S.length := by
        rcases cu with ⟨_, e⟩ | ⟨_, e, _⟩
        · omega
        · omega
      exact inner (S.length - k) k _ m2 [] (by omega) cu (fun c j z => f2 c j (by omega)) (by rw [e2, up_s]; rfl) List.Pairwise.nil (Nat.zero_le _) (fun t => ⟨fun z => absurd z List.not_mem_nil, fun z => absurd z (no _)⟩) (fun q hq => absurd hq (Nat.not_lt_zero q))
  exact R243_0 H (roles L.length 0 m0 T (fun _ => []) none none (by omega) (Nat.le_refl _) (by omega) hw0 (fun q hq => absurd hq (Nat.not_lt_zero q)) (fun _ _ _ => rfl))
end RGM
