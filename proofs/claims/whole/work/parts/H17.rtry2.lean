/-! ===== the reference: tryRule ===== -/
/-- what trying a rule may write -/
abbrev WTr (r : Nat) (c : Nat) (j : Int) : Prop := WTp c j ∨ c = 161 ∨ (c = 125 ∧ (j = 58 ∨ j = 68 ∨ j = 69)) ∨ (c = 169 ∧ j = (r : Int))
section RP4
variable {d : Nat} {μ : am_Mem} {l : PM} {T C0 k : Nat} {W : Int → Nat} {rs : List Rul} {B S : List Atm} {lev : List Int → Nat}
theorem lst_ex {P : Nat → Prop} {n : Nat} (h : ∃ i, i < n ∧ P i) : ∃ q, q < n ∧ P q ∧ ∀ i, i < q → ¬ P i := by
  obtain ⟨i, hi, hP⟩ := h
  induction i using Nat.strongRecOn with
  | _ i ih =>
    by_cases y : ∃ j, j < i ∧ P j
    · obtain ⟨j, j1, j2⟩ := y
      exact ih j j1 (by omega) j2
    · exact ⟨i, hi, hP, fun j hj z => y ⟨j, hj, z⟩⟩
theorem BdL_nb {m m' : PM} {T T' : Nat} (e : ∀ v : Nat, v < 8 → m' 164 v = m 164 v) (h : BdL m T 0 noB) : BdL m' T' 0 noB := fun v hv => ⟨fun z => by rw [e v hv]; exact (h v hv).1 z, fun q z => nomatch z⟩
theorem c_tryRule {m : PM} {r : Nat} {Q : Option Value ⊕ Nat → am_Mem → Prop} (H : RS μ) (hr : r < rs.length) (hL : LvO lev rs) (hC : C0 + 85000 ≤ 130000) (hk : k ≤ lev (rs.getD r ruD).1.1) (hneg : ∀ c, c ∈ (rs.getD r ruD).2 → c.1 = 2 → lev c.2.1 < k) (hWd : ∀ c, c ∈ (rs.getD r ruD).2 → c.1 < 3 → ∀ x, nX m x c.2.1 → W x = c.2.2.length) (hWh : ∀ x, nX m x (rs.getD r ruD).1.1 → W x = (rs.getD r ruD).1.2.length) (hF : RuF (rs.getD r ruD) (posR (rs.getD r ruD))) (hE : EvS W rs B lev k C0 m T S) (h56 : m 125 56 = 0)
    (hold : m 169 r = -1 ∨ ∃ old : Nat, m 169 r = (old : Int) ∧ old ≤ S.length ∧ ∀ β, Gb β → (∀ i, i < (posR (rs.getD r ruD)).length → ∃ a : Nat, a < old ∧ S.getD a ([], []) = sbA β ((posR (rs.getD r ruD)).getD i ([], []))) → Dn (rs.getD r ruD) S S β)
    (hend : ∀ (m' : PM) (T' : Nat) (S' : List Atm) (news' : Int), EvS W rs B lev k C0 m' T' S' → m' 125 56 = 0 → ExS lev k S S' → T ≤ T' → (∀ c j, ¬ WTr r c j → m' c j = m c j) → m' 169 r = (S.length : Int) → (∀ β, Gb β → (∀ i, i < (posR (rs.getD r ruD)).length → sbA β ((posR (rs.getD r ruD)).getD i ([], [])) ∈ S) → Dn (rs.getD r ruD) S S' β) → news' = bP (S.length < S'.length) → Q (.inl (some (.int (zI news')))) (sA μ m' l))
    (hX : ∀ (m' : PM) (T' : Nat) (S' : List Atm) (news' : Int), (¬ ∃ S', EvG rs B S') → WkR W rs m' T' S' → m' 125 56 = 1 → (news' = 0 ∨ news' = 1) → (∀ c j, ¬ WTr r c j → m' c j = m c j) → Q (.inl (some (.int (zI news')))) (sA μ m' l)) :
    Wp (d + 7) 224 (0, [some (.ref 125), some (.int (zI (r : Int))), none, none, none, none], [], sA μ m l) Q := by
  have n60 := (RV_n hE.1.1).2.1
  have hS1000 := hE.1.2.2.2.2.1.2.1
  refine R224_0 H ⟨_, _, c_take (d := d + 6) H hE.1.1 hr, fun μ' hp => ?_, fun _ _ z => z.elim⟩
  obtain ⟨m1, rfl, tk, nb, f1⟩ := hp
  have e169 : m1 169 (r : Int) = m 169 (r : Int) := f1 _ _ (by omega)
  have e48 : m1 125 48 = (S.length : Int) := by rw [f1 _ _ (by omega)]; exact hE.1.2.2.2.2.1.1
  have hP1 : PosM W m1 (posR (rs.getD r ruD)) := PosM_take hE.1.1 hr tk f1 hWd
  have h65 := hE.1.2.2.2.2.2.2
  have h51 := hE.1.2.1.2.2.1
  generalize hpos : posR (rs.getD r ruD) = pos at *
  refine R224_5 H ⟨⟨by omega, by omega⟩, ?_⟩
  rintro m2 e2
  rw [e48] at e2
  have f2 : ∀ c j, ¬ ((c = 169 ∧ j = (r : Int)) ∨ (c = 125 ∧ (j = 68 ∨ j = 69))) → m2 c j = m1 c j := fun c j z => by rw [e2, up_o (by omega), up_o (by omega), up_o (by omega)]
  have g169 : m2 169 (r : Int) = (S.length : Int) := by rw [e2, up_c (by decide), up_c (by decide), up_s]
  have g68 : m2 125 68 = -1 := by rw [e2, up_i (by decide), up_s]
  have g69 : m2 125 69 = -1 := by rw [e2, up_s]
  have f20 : ∀ c j, ¬ ((c = 125 ∧ (j = 58 ∨ j = 68 ∨ j = 69)) ∨ c = 161 ∨ c = 163 ∨ c = 164 ∨ (c = 169 ∧ j = (r : Int))) → m2 c j = m c j := fun c j z => by rw [f2 c j (by omega), f1 c j (by omega)]
  have E2 : EvS W rs B lev k C0 m2 T S := EvS_cg (fun c j z => f20 c j (by omega)) (fun j => by rw [f20 _ _ (by omega)]; exact h51 j) (fun j => by rw [f20 _ _ (by omega)]; exact h65 j) hE
  have P2 : PosM W m2 pos := PosM_cg (fun c j z => f2 c j (by omega)) hP1
  have B2 : BdL m2 T 0 noB := fun v hv => ⟨fun _ => Or.inl (by rw [f2 164 _ (by omega)]; exact (nb v hv).2), fun q z => nomatch z⟩
  have e562 : m2 125 56 = 0 := by rw [f20 _ _ (by omega)]; exact h56
  have nxm : ∀ {m' : PM}, (∀ c j, ¬ WTr r c j → m' c j = m c j) → ∀ {x : Int} {w : List Int}, nX m' x w → nX m x w := fun {m'} fr {x w} h => nX_cg (fr _ _ (by omega)).symm (fun i => (fr _ _ (by omega)).symm) (fun i => (fr _ _ (by omega)).symm) h
  have fr2 : ∀ c j, ¬ WTr r c j → m2 c j = m c j := fun c j z => f20 c j (by omega)
  have memI : ∀ {a : Atm}, a ∈ S ↔ ∃ i : Nat, i < S.length ∧ S.getD i ([], []) = a := fun {a} => ⟨fun h => gA_ex h, fun ⟨i, hi, e⟩ => by rw [← e]; exact gA_mem hi⟩
  have hp8 := P2.2.1
  have hR169 : iR (m 169 r) := by
    rcases hold with e | ⟨old, e, e2', _⟩
    · rw [e]
      exact ⟨by decide, by decide⟩
    · rw [e]
      exact ⟨by omega, by omega⟩
  refine ⟨by rw [e169]; exact hR169, fun z => ?_, fun z => ?_⟩
  · /- it was tried before -/
    obtain ⟨old, eo, ho1, ho2⟩ : ∃ old : Nat, m 169 r = (old : Int) ∧ old ≤ S.length ∧ ∀ β, Gb β → (∀ i, i < pos.length → ∃ a : Nat, a < old ∧ S.getD a ([], []) = sbA β (pos.getD i ([], []))) → Dn (rs.getD r ruD) S S β := by
      rcases hold with e | h
      · rw [e169, e] at z
        exact absurd z (by decide)
      · exact h
    rw [e169, eo]
    have loop : ∀ (f p : Nat) (mp : PM) (Tp : Nat) (Sp : List Atm) (news : Int) (o5 : Option Value), p + f = pos.length → EvS W rs B lev k C0 mp Tp Sp → mp 125 56 = 0 → ExS lev k S Sp → T ≤ Tp → BdL mp Tp 0 noB → (∀ c j, ¬ WTr r c j → mp c j = m c j) → mp 169 r = (S.length : Int) → PosM W mp pos → (∀ β, Gb β → ∀ q : Nat, q < p → Cmb pos S S.length old (q : Int) 0 β → Dn (rs.getD r ruD) S Sp β) → news = bP (S.length < Sp.length) → Wp (d + 7) 224 (48, [some (.ref 125), some (.int (zI (r : Int))), some (.int (zI (old : Int))), some (.int (zI news)), some (.int (zI (p : Int))), o5], [], sA μ mp l) Q := by
      intro f
      induction f with
      | zero =>
        intro p mp Tp Sp news o5 hp Ep e56 xp tp Bp frp e169p Pp dn hn
        have n01 : news = 0 ∨ news = 1 := by rw [hn]; exact bP_b _
        refine R224_48 H ⟨⟨by omega, by omega⟩, by rw [Pp.1]; exact ⟨by omega, by omega⟩, fun _ => ⟨n01, hend mp Tp Sp news Ep e56 xp tp frp e169p (fun β hβ hin => ?_) hn⟩, fun z => by rw [Pp.1] at z; omega⟩
        by_cases hall : ∀ i, i < pos.length → ∃ a : Nat, a < old ∧ S.getD a ([], []) = sbA β (pos.getD i ([], []))
        · exact fun ho => ExS_m xp (ho2 β hβ hall ho)
        · obtain ⟨q, hq1, hq2, hq3⟩ : ∃ q, q < pos.length ∧ (¬ ∃ a : Nat, a < old ∧ S.getD a ([], []) = sbA β (pos.getD q ([], []))) ∧ ∀ i, i < q → ∃ a : Nat, a < old ∧ S.getD a ([], []) = sbA β (pos.getD i ([], [])) := by
            obtain ⟨q, q1, q2, q3⟩ := lst_ex (P := fun i => ¬ ∃ a : Nat, a < old ∧ S.getD a ([], []) = sbA β (pos.getD i ([], []))) (n := pos.length) (Classical.byContradiction fun z => hall (fun i hi => Classical.byContradiction fun y => z ⟨i, hi, y⟩))
            exact ⟨q, q1, q2, fun i hi => Classical.byContradiction fun y => q3 i hi y⟩
          refine dn β hβ q (by omega) (fun i _ hi2 => ?_)
          by_cases y : i < q
          · obtain ⟨a, a1, a2⟩ := hq3 i y
            exact ⟨a, by omega, a2, fun _ => a1, fun z => by omega⟩
          · obtain ⟨a, a1, a2⟩ := memI.mp (hin i hi2)
            refine ⟨a, a1, a2, fun z => by omega, fun z => ?_⟩
            have ei : i = q := by omega
            rw [ei] at a2
            exact Nat.le_of_not_lt fun w => hq2 ⟨a, w, a2⟩
      | succ f ih =>
        intro p mp Tp Sp news o5 hp Ep e56 xp tp Bp frp e169p Pp dn hn
        have n01 : news = 0 ∨ news = 1 := by rw [hn]; exact bP_b _
        have hlt : p < pos.length := by omega
        obtain ⟨an, nxp, _, _⟩ := Pp.2.2 p hlt
        have x1 := nxp.1
        have x2 := nxp.2.1
        obtain ⟨hvp, hIp, hUp, hLp, hHp, hSp, h65p⟩ := id Ep.1
        have hDp := hvp.2.2.1
        have h9p := (RV_n hvp).2.2.2.1
        have hSp1000 := hHp.2.1
        have lSp := ExS_l xp
        have an1 := an.1
        have relp : ∀ a : Nat, a < Sp.length → (Sp.getD a ([], [])).1 = (pos.getD p ([], [])).1 → mp 154 (a : Int) = mp 135 (mp 161 (p : Int)) := fun a ha e => by
          obtain ⟨n1, _, _⟩ := hSp a ha
          rw [e] at n1
          exact nX_in2 hDp n1 nxp
        have namp : ∀ a : Nat, a < Sp.length → mp 154 (a : Int) = mp 135 (mp 161 (p : Int)) → (Sp.getD a ([], [])).1 = (pos.getD p ([], [])).1 := fun a ha e => by
          obtain ⟨n1, _, _⟩ := hSp a ha
          rw [e] at n1
          exact nX_fun n1 nxp
        /- behind the search for a new atom -/
        have at106 : ∀ c : Int, ChO Sp (pos.getD p ([], [])).1 c → (∀ a : Nat, a < S.length → (Sp.getD a ([], [])).1 = (pos.getD p ([], [])).1 → old ≤ a → 0 ≤ c ∧ c ≤ (a : Int)) → Wp (d + 7) 224 (106, [some (.ref 125), some (.int (zI (r : Int))), some (.int (zI (old : Int))), some (.int (zI news)), some (.int (zI (p : Int))), some (.int (zI c))], [], sA μ mp l) Q := by
          intro c hch hPF
          have hcR : iR c := by
            rcases hch with e | ⟨a, e, ha, _⟩
            · rw [e]; exact ⟨by decide, by decide⟩
            · rw [e]; exact ⟨by omega, by omega⟩
          refine R224_106 H ⟨hcR, fun zc => ?_, fun zc => ?_⟩
          · rintro m3 e3
            have f3 : ∀ c j, ¬ (c = 125 ∧ (j = 68 ∨ j = 69)) → m3 c j = mp c j := fun c j z => by rw [e3, up_o (by omega), up_o (by omega)]
            refine ⟨by rw [hn]; exact bP_R _, ?_⟩
            rintro v2 ev
            have ev2 : v2 = news := by
              rw [ev]
              rcases n01 with e | e
              · rw [if_pos e]; exact e.symm
              · rw [if_neg (by omega)]; exact e.symm
            rw [ev2]
            refine ih (p + 1) m3 Tp Sp news _ (by omega) (EvS_cg (fun c j z => f3 c j (by omega)) (fun j => by rw [f3 _ _ (by omega)]; exact hIp.2.2.1 j) (fun j => by rw [f3 _ _ (by omega)]; exact h65p j) Ep) (by rw [f3 _ _ (by omega)]; exact e56) xp tp (BdL_nb (fun v _ => f3 _ _ (by omega)) Bp) (fun c j z => by rw [f3 c j (by omega)]; exact frp c j z) (by rw [f3 _ _ (by omega)]; exact e169p) (PosM_cg (fun c j z => f3 c j (by omega)) Pp) (fun β hβ q hq hc => ?_) hn
            by_cases y : q = p
            · obtain ⟨a, a1, a2, _, a4⟩ := hc p (Nat.zero_le _) hlt
              have := hPF a a1 (by rw [ExS_g xp a1, a2]; rfl) (a4 (by omega))
              omega
            · exact dn β hβ q (by omega) hc
          · rintro m3 e3
            have f3 : ∀ c j, ¬ (c = 125 ∧ (j = 68 ∨ j = 69)) → m3 c j = mp c j := fun c j z => by rw [e3, up_o (by omega), up_o (by omega)]
            have fr3 : ∀ c j, ¬ WTr r c j → m3 c j = m c j := fun c j z => by rw [f3 c j (by omega)]; exact frp c j z
            refine ⟨fun y μ' => Wp (d + 7) 224 (129, [some (.ref 125), some (.int (zI (r : Int))), some (.int (zI (old : Int))), some (.int (zI news)), some (.int (zI (p : Int))), some (.int (zI c))], [.int y], μ') Q, noX, ?_, fun _ _ z => z, fun _ _ z => z.elim⟩
            have ep : ((p : Int)).toNat = p := by omega
            refine c_tryPass (d := d) (Q := pI _ noX) (S := Sp) (T := Tp) (F0 := S.length) (old := old) (ps := (p : Int)) (pf := c) H hr hL hC hk hneg (fun c hc e x hx' => hWd c hc e x (nxm fr3 hx')) (fun x hx' => hWh x (nxm fr3 hx')) hF (by omega) (by omega) ⟨by omega, by omega⟩ (fun _ => by rw [ep]; exact hch) (fun _ a a1 a2 a3 => by rw [ep] at a2; exact hPF a a1 a2 a3) (PosM_cg (fun c j z => f3 c j (by omega)) Pp) (by rw [e3, up_i (by decide), up_s]) (by rw [e3, up_s]) (EvS_cg (fun c j z => f3 c j (by omega)) (fun j => by rw [f3 _ _ (by omega)]; exact hIp.2.2.1 j) (fun j => by rw [f3 _ _ (by omega)]; exact h65p j) Ep) (by rw [f3 _ _ (by omega)]; exact e56) (BdL_nb (fun v _ => f3 _ _ (by omega)) Bp) (fun m4 T4 S4 news4 E4 e564 x4 t4 B4 fr4 dn4 n4 => ?_) (fun m4 T4 S4 news4 tg w4 e564 n4 fr4 => ?_)
            · have n401 : news4 = 0 ∨ news4 = 1 := by rw [n4]; exact bP_b _
              refine R224_129 H ⟨by rw [n4]; exact bP_R _, ⟨fun _ => trivial, fun _ => ⟨by rw [hn]; exact bP_R _, trivial⟩⟩, ?_⟩
              rintro v1 ev
              have l4 := ExS_l x4
              have ev2 : v1 = bP (S.length < S4.length) := by
                rw [ev]
                rcases n401 with e | e
                · rw [if_neg (fun z => z e)]
                  have e4 : ¬ Sp.length < S4.length := bP_z.mp (by rw [← n4]; exact e)
                  rcases n01 with e' | e'
                  · rw [if_pos e']
                    have e5 : ¬ S.length < Sp.length := bP_z.mp (by rw [← hn]; exact e')
                    exact (bP_0 (by omega)).symm
                  · rw [if_neg (by omega)]
                    have e5 : S.length < Sp.length := bP_e.mp (by rw [← hn]; exact e')
                    exact (bP_1 (by omega)).symm
                · rw [if_pos (by omega)]
                  have e4 : Sp.length < S4.length := bP_e.mp (by rw [← n4]; exact e)
                  exact (bP_1 (by omega)).symm
              refine ih (p + 1) m4 T4 S4 v1 _ (by omega) E4 e564 (ExS_t xp x4) (by omega) B4 (fun c j z => by rw [fr4 c j (by omega)]; exact fr3 c j z) (by rw [fr4 _ _ (by omega), f3 _ _ (by omega)]; exact e169p) (PosM_cg (fun c j z => by rw [fr4 c j (by omega), f3 c j (by omega)]) Pp) (fun β hβ q hq hc => ?_) ev2
              by_cases y : q = p
              · intro ho
                refine dn4 β hβ (fun i i1 i2 => ?_) (fun c hc' => (Oth_st xp (hneg c hc')).mpr (ho c hc'))
                rw [y] at hc
                obtain ⟨a, a1, a2, a3, a4⟩ := hc i i1 i2
                exact ⟨a, a1, by rw [ExS_g xp a1]; exact a2, a3, a4⟩
              · exact fun ho => ExS_m x4 (dn β hβ q (by omega) hc ho)
            · have n4R : iR news4 := by rcases n4 with e | e <;> rw [e] <;> exact ⟨by decide, by decide⟩
              refine R224_129 H ⟨n4R, ⟨fun _ => trivial, fun _ => ⟨by rw [hn]; exact bP_R _, trivial⟩⟩, ?_⟩
              rintro v1 ev
              have hv01 : v1 = 0 ∨ v1 = 1 := by
                rw [ev]
                by_cases y : news4 = 0
                · rw [if_neg (fun z => z y)]
                  by_cases y' : news = 0
                  · rw [if_pos y']; exact Or.inl rfl
                  · rw [if_neg y']; exact Or.inr rfl
                · rw [if_pos y]; exact Or.inr rfl
              have gx := hX m4 T4 S4 v1 tg w4 e564 hv01 (fun c j z => by rw [fr4 c j (by omega)]; exact fr3 c j z)
              have P4 : PosM W m4 pos := PosM_cg (fun c j z => by rw [fr4 c j (by omega), f3 c j (by omega)]) Pp
              exact R224_48 H ⟨⟨by omega, by omega⟩, by rw [P4.1]; exact ⟨by omega, by omega⟩, fun _ => ⟨hv01, gx⟩, fun _ => ⟨by rw [e564]; exact ⟨by decide, by decide⟩, fun _ => ⟨hv01, gx⟩, fun z => absurd (by rw [e564]; decide) z⟩⟩
        /- the search -/
        have srch : ∀ (g : Nat) (c : Int), (c < 0 ∨ 1001 - c.toNat ≤ g) → ChO Sp (pos.getD p ([], [])).1 c → (∀ a : Nat, a < S.length → (Sp.getD a ([], [])).1 = (pos.getD p ([], [])).1 → old ≤ a → 0 ≤ c ∧ c ≤ (a : Int)) → Wp (d + 7) 224 (83, [some (.ref 125), some (.int (zI (r : Int))), some (.int (zI (old : Int))), some (.int (zI news)), some (.int (zI (p : Int))), some (.int (zI c))], [], sA μ mp l) Q := by
          intro g
          induction g with
          | zero =>
            intro c hg hch hPF
            rcases id hch with e | ⟨a, e, ha, _⟩
            · refine R224_83 H ⟨by rw [e]; exact ⟨by decide, by decide⟩, fun _ => at106 c hch hPF, fun z => by omega⟩
            · omega
          | succ g ihg =>
            intro c hg hch hPF
            rcases id hch with e | ⟨a, e, ha, hnm⟩
            · exact R224_83 H ⟨by rw [e]; exact ⟨by decide, by decide⟩, fun _ => at106 c hch hPF, fun z => by omega⟩
            · refine R224_83 H ⟨by rw [e]; exact ⟨by omega, by omega⟩, fun _ => at106 c hch hPF, fun zc => ⟨⟨by omega, by omega⟩, fun _ => at106 c hch hPF, fun zo => ⟨⟨by omega, by omega⟩, ?_⟩⟩⟩
              rw [e]
              have e156 : mp 156 (a : Int) = nxF (mp 154) a Sp.length := (hHp.2.2.1 a ha).2.2.2
              have nsp := nxF_sp (mp 154) a Sp.length
              rw [← e156] at nsp
              have er := relp a ha hnm
              refine ihg (mp 156 (a : Int)) ?_ ?_ (fun a' a1 a2 a3 => ?_)
              · rcases nsp with ⟨y, _⟩ | ⟨c', y, y1, _⟩
                · exact Or.inl (by omega)
                · exact Or.inr (by omega)
              · rcases nsp with ⟨y, _⟩ | ⟨c', y, _, y2, y3, _⟩
                · exact Or.inl y
                · exact Or.inr ⟨c', y, y2, namp c' y2 (by rw [y3, er])⟩
              · have er' := relp a' (by omega) a2
                rcases nsp with ⟨_, y⟩ | ⟨c', y, _, _, _, y5⟩
                · exact absurd (by rw [er', er]) (y a' (by omega) (by omega))
                · by_cases w : a' < c'
                  · exact absurd (by rw [er', er]) (y5 a' (by omega) w)
                  · omega
        refine R224_48 H ⟨⟨by omega, by omega⟩, by rw [Pp.1]; exact ⟨by omega, by omega⟩, fun z => by rw [Pp.1] at z; omega, fun _ => ⟨by rw [e56]; exact ⟨by decide, by decide⟩, fun z => absurd e56 z, fun _ => ⟨⟨by omega, by omega⟩, ⟨by omega, by omega⟩, ⟨by omega, by omega⟩, ?_⟩⟩⟩
        rintro v1 ev
        have e158 : v1 = fsF (mp 154) (mp 135 (mp 161 (p : Int))) Sp.length := by rw [ev]; exact (hHp.2.2.2.1 _ nxp.1 nxp.2.1).2.1
        have fsp := fsF_sp (mp 154) (mp 135 (mp 161 (p : Int))) Sp.length
        rw [← e158] at fsp
        refine srch 1001 v1 (by omega) ?_ (fun a a1 a2 a3 => ?_)
        · rcases fsp with ⟨y, _⟩ | ⟨c', y, y2, y3, _⟩
          · exact Or.inl y
          · exact Or.inr ⟨c', y, y2, namp c' y2 y3⟩
        · have er' := relp a (by omega) a2
          rcases fsp with ⟨_, y⟩ | ⟨c', y, _, _, y5⟩
          · exact absurd er' (y a (by omega))
          · by_cases w : a < c'
            · exact absurd er' (y5 a w)
            · omega
    exact loop pos.length 0 m2 T S 0 none (by omega) E2 e562 ExS_r (Nat.le_refl _) B2 fr2 g169 P2 (fun β _ q hq => absurd hq (Nat.not_lt_zero q)) (bP_0 (fun z => absurd z (Nat.lt_irrefl _))).symm
  · /- it is tried for the first time -/
    refine ⟨fun y μ' => Wp (d + 7) 224 (42, [some (.ref 125), some (.int (zI (r : Int))), some (.int (zI (m1 169 (r : Int)))), none, none, none], [.int y], μ') Q, noX, ?_, fun _ _ z => z, fun _ _ z => z.elim⟩
    have go := c_tryPass (d := d) (l := l) (Q := pI (fun y μ' => Wp (d + 7) 224 (42, [some (.ref 125), some (.int (zI (r : Int))), some (.int (zI (m1 169 (r : Int)))), none, none, none], [.int y], μ') Q) noX) (m := m2) (S := S) (T := T) (F0 := S.length) (old := 0) (ps := -1) (pf := -1) H hr hL hC hk hneg (fun c hc e x hx' => hWd c hc e x (nxm fr2 hx')) (fun x hx' => hWh x (nxm fr2 hx')) hF (Nat.le_refl _) (by omega) ⟨by decide, by decide⟩ (fun z => absurd z (by decide)) (fun z => absurd z (by decide)) P2 g68 g69 E2 e562 B2 (fun m4 T4 S4 news4 E4 e564 x4 t4 B4 fr4 dn4 n4 => ?_) (fun m4 T4 S4 news4 tg w4 e564 n4 fr4 => ?_)
    · exact go
    · refine R224_42 H ⟨by rw [n4]; exact bP_b _, hend m4 T4 S4 news4 E4 e564 x4 t4 (fun c j z => by rw [fr4 c j (by omega)]; exact fr2 c j z) (by rw [fr4 _ _ (by omega)]; exact g169) (fun β hβ hin => dn4 β hβ (fun i _ hi => ?_)) n4⟩
      obtain ⟨a, a1, a2⟩ := memI.mp (hin i hi)
      exact ⟨a, a1, a2, fun z => by omega, fun z => by omega⟩
    · exact R224_42 H ⟨n4, hX m4 T4 S4 news4 tg w4 e564 n4 (fun c j z => by rw [fr4 c j (by omega)]; exact fr2 c j z)⟩
end RP4
