/-! ===== the class at work: a group's recursive rules ===== -/
theorem ex_least {P : Nat → Prop} : ∀ n : Nat, P n → ∃ i, P i ∧ ∀ j, j < i → ¬ P j := by
  intro n
  induction n using Nat.strongRecOn with
  | _ n ih =>
    intro h
    rcases Classical.em (∃ j, j < n ∧ P j) with ⟨j, j1, j2⟩ | z
    · exact ih j j1 j2
    · exact ⟨n, h, fun j hj hp => z ⟨j, hj, hp⟩⟩
/-- what a rule must do by an atom that fulfils a condition -/
abbrev Dpr (rs : List Rul) (r f : Nat) (S0 : List Atm) (κ : Nat) (S : List Atm) : Prop := ∀ β, Gb β → sbA β ((posR (rs.getD r ruD)).getD κ ([], [])) = S0.getD f ([], []) → Cmj (posR (rs.getD r ruD)) S0 (κ : Int) (f : Int) 0 β → Dn (rs.getD r ruD) S0 S β
/-- what a rule must do by the atoms up to one -/
abbrev Dfr (rs : List Rul) (r f : Nat) (S : List Atm) : Prop := ∀ β, Gb β → (∀ i, i < (posR (rs.getD r ruD)).length → ∃ a : Nat, a < f ∧ S.getD a ([], []) = sbA β ((posR (rs.getD r ruD)).getD i ([], []))) → Dn (rs.getD r ruD) S S β
theorem Dfr_s {rs : List Rul} {r f : Nat} {lev : List Int → Nat} {k : Nat} {S S' : List Atm} (hn : ∀ c, c ∈ (rs.getD r ruD).2 → c.1 = 2 → lev c.2.1 < k) (hf : f < S.length) (hx : ExS lev k S S') (h : Dfr rs r f S) (hp : ∀ κ, κ < (posR (rs.getD r ruD)).length → Dpr rs r f S κ S') : Dfr rs r (f + 1) S' := by
  intro β hβ ha
  have ha' : ∀ i, i < (posR (rs.getD r ruD)).length → ∃ a : Nat, a < f + 1 ∧ S.getD a ([], []) = sbA β ((posR (rs.getD r ruD)).getD i ([], [])) := fun i hi => by
    obtain ⟨a, a1, a2⟩ := ha i hi
    rw [ExS_g hx (by omega)] at a2
    exact ⟨a, a1, a2⟩
  rcases Classical.em (∃ i, i < (posR (rs.getD r ruD)).length ∧ sbA β ((posR (rs.getD r ruD)).getD i ([], [])) = S.getD f ([], [])) with ⟨i, hi⟩ | z
  · obtain ⟨κ, ⟨k1, k2⟩, k3⟩ := ex_least (P := fun i => i < (posR (rs.getD r ruD)).length ∧ sbA β ((posR (rs.getD r ruD)).getD i ([], [])) = S.getD f ([], [])) i hi
    refine Dn_st hx hn (fun _ h => h) (hp κ k1 β hβ k2 (fun j _ j1 j2 => ?_))
    obtain ⟨a, a1, a2⟩ := ha' j j1
    refine ⟨a, by omega, a2, fun hlt => ?_, by omega⟩
    have ne : ¬ a = f := fun e => k3 j (by omega) ⟨j1, by rw [← a2, e]⟩
    omega
  · refine Dn_st hx hn (fun a ha => ExS_m hx ha) (h β hβ (fun j j1 => ?_))
    obtain ⟨a, a1, a2⟩ := ha' j j1
    have ne : ¬ a = f := fun e => z ⟨j, j1, by rw [← a2, e]⟩
    exact ⟨a, by omega, a2⟩
section CRR
variable {d : Nat} {Q : Option Value ⊕ Nat → am_Mem → Prop} {X : Int → List Int → Prop} {W : Int → Nat} {s k C0 r f : Nat} {rs : List Rul} {B : List Atm → Prop} {S0 S : List Atm} {lev : List Int → Nat} {μ : am_Mem} {m l : PM} {q T : Nat}
/-- a rule, by one atom for each of its conditions -/
theorem rc_69 {x1 x2 x4 : Int} (hs : s = 22 ∨ s = 42) (hgo : GoS rs) (hC : C0 + 45000 ≤ 58192) (hL : LvO lev rs) (hr : r < rs.length) (hl : lev (rs.getD r ruD).1.1 = k) (hS : ShW s μ q) (hE : EvC X W s rs B lev k C0 m q T S) (hLT : LT s rs m r 0) (hf : f < S0.length) (hx : ExS lev k S0 S)
    (hend : ∀ (μ' : am_Mem) (m' l' : PM) (q' T' : Nat) (S' : List Atm) (o6 : Option Value), RnG X W s rs B lev k C0 μ m l q T S μ' m' l' q' T' S' → m' 70 11 = (f : Int) → (∀ κ, κ < (posR (rs.getD r ruD)).length → Dpr rs r f S0 κ S') → Wp (d + 13) 44 (36, [some (.ref 70), some (.int (zI x1)), some (.int (zI x2)), some (.int (zI (f : Int))), some (.int (zI (x4 + 1))), some (.int (zI ((posR (rs.getD r ruD)).length : Int))), o6], [], sA μ' m' l') Q)
    (hthr : ∀ (μ' : am_Mem) (m' l' : PM) (q' T' : Nat) (S' : List Atm), RnT X W s rs B lev k C0 μ m l q T S μ' m' l' q' T' S' → Q (.inr 3) (sA (am_nX μ') m' l')) :
    ∀ (n κ : Nat) (μ1 : am_Mem) (m1 l1 : PM) (q1 T1 : Nat) (S1 : List Atm) (o6 : Option Value), κ + n = (posR (rs.getD r ruD)).length → RnG X W s rs B lev k C0 μ m l q T S μ1 m1 l1 q1 T1 S1 → m1 70 9 = (r : Int) → m1 70 11 = (f : Int) → (∀ κ', κ' < κ → Dpr rs r f S0 κ' S1) → Wp (d + 13) 44 (69, [some (.ref 70), some (.int (zI x1)), some (.int (zI x2)), some (.int (zI (f : Int))), some (.int (zI x4)), some (.int (zI (κ : Int))), o6], [], sA μ1 m1 l1) Q := by
  have fS : ∀ {μ1 : am_Mem} {m1 l1 : PM} {q1 T1 : Nat} {S1 : List Atm}, RnG X W s rs B lev k C0 μ m l q T S μ1 m1 l1 q1 T1 S1 → ∀ c j, s ≤ c → c ≤ s + 19 → m1 c j = m c j := fun h c j a1 a2 => (h.1.2.1 c j (rn_o (j := j) hS hs (Or.inl ⟨a1, a2⟩)).2).1 (rn_o (j := j) hS hs (Or.inl ⟨a1, a2⟩)).1
  intro n
  induction n with
  | zero =>
    intro κ μ1 m1 l1 q1 T1 S1 o6 hκ hR e9 e11 hdn
    obtain ⟨t1, t2, t3, t4, t5, t6⟩ := Gw_S hS hR.1.1
    obtain ⟨n13, n60, n0, n1000⟩ := KV_n hR.2.2.1.1.1
    obtain ⟨k1, k2, k3, k4, k5, k6⟩ := KV_rule hR.2.2.1.1.1 hr
    have e13 := k1.2.1.1
    rw [← posR_l] at e13 k5
    have hκ' : κ = (posR (rs.getD r ruD)).length := by omega
    refine K44_69 (d := d + 10) t1 t2 (TQ_q t3) hs t5 ?_
    rw [e9, e13]
    refine ⟨⟨by omega, by omega⟩, ⟨by omega, by omega⟩, ⟨by omega, by omega⟩, fun _ => ?_, fun z => absurd z (by omega)⟩
    have z := hend μ1 m1 l1 q1 T1 S1 o6 hR e11 (fun κ' h' => hdn κ' (by omega))
    rw [← hκ'] at z
    exact z
  | succ n ih =>
    intro κ μ1 m1 l1 q1 T1 S1 o6 hκ hR e9 e11 hdn
    have hS1 := Gw_S hS hR.1.1
    obtain ⟨t1, t2, t3, t4, t5, t6⟩ := id hS1
    have hq1 := TQ_q t3
    obtain ⟨n13, n60, n0, n1000⟩ := KV_n hR.2.2.1.1.1
    obtain ⟨k1, k2, k3, k4, k5, k6⟩ := KV_rule hR.2.2.1.1.1 hr
    have e13 := k1.2.1.1
    rw [← posR_l] at e13 k5
    have hκ1 : κ < (posR (rs.getD r ruD)).length := by omega
    have hx1 : ExS lev k S0 S1 := ExS_t hx hR.2.2.2
    have hl1 := ExS_l hx1
    have hS1000 := hR.2.2.1.1.2.2.2.2.2.1.2.1
    have hf1 : f < S1.length := by omega
    obtain ⟨kn, ek⟩ : ∃ kn : Nat, m1 (s + 12) (8 * (r : Int) + (κ : Int)) = (kn : Int) := by
      obtain ⟨p1, p2, p3⟩ := KV_pos hR.2.2.1.1.1 hr (by rw [← posR_l]; exact hκ1)
      have := (KV_cond hR.2.2.1.1.1 hr p1 p3).2.1
      exact ⟨(m1 (s + 12) (8 * (r : Int) + (κ : Int))).toNat, by omega⟩
    have nxt : ∀ (μ3 : am_Mem) (m3 l3 : PM) (q3 T3 : Nat) (S3 : List Atm), RnG X W s rs B lev k C0 μ1 m1 l1 q1 T1 S1 μ3 m3 l3 q3 T3 S3 → m3 70 9 = (r : Int) → m3 70 11 = (f : Int) → Dpr rs r f S0 κ S3 → Wp (d + 13) 44 (69, [some (.ref 70), some (.int (zI x1)), some (.int (zI x2)), some (.int (zI (f : Int))), some (.int (zI x4)), some (.int (zI ((κ : Int) + 1))), some (.int (zI (kn : Int)))], [], sA μ3 m3 l3) Q := by
      intro μ3 m3 l3 q3 T3 S3 hR3 a9 a11 a3
      have z := ih (κ + 1) μ3 m3 l3 q3 T3 S3 (some (.int (zI (kn : Int)))) (by omega) (RnG_t hS hR hR3) a9 a11 (fun κ' h' => by
        by_cases y : κ' = κ
        · rw [y]; exact a3
        · exact fun β hβ h1 h2 ho => ExS_m hR3.2.2.2 (hdn κ' (by omega) β hβ h1 h2 ho))
      rw [show ((κ + 1 : Nat) : Int) = (κ : Int) + 1 by omega] at z
      exact z
    refine K44_69 (d := d + 10) t1 t2 hq1 hs t5 ?_
    rw [e9, e13]
    refine ⟨⟨by omega, by omega⟩, ⟨by omega, by omega⟩, ⟨by omega, by omega⟩, fun z => absurd z (by omega), fun _ m2 em2 => ⟨⟨by omega, by omega⟩, fun v2 ev2 => ?_⟩⟩
    have f2 : ∀ c j, ¬ (c = 70 ∧ 8 ≤ j ∧ j ≤ 11) → m2 c j = m1 c j := fun c j z => by
      rw [em2, up_o (by omega), up_o (by omega)]
    have hR2 := w70_st (l := l1) hs hS1 hR.2.2.1 f2
    have e8' : m2 70 8 = 0 := by rw [em2, up_s]
    have e9' : m2 70 9 = (r : Int) := by rw [em2, up_i (by decide), up_i (by decide)]; exact e9
    have e10' : m2 70 10 = (κ : Int) := by rw [em2, up_i (by decide), up_s]
    have e11' : m2 70 11 = (f : Int) := by rw [em2, up_i (by decide), up_i (by decide)]; exact e11
    rw [f2 _ _ (by omega), ek] at ev2
    rw [ev2]
    clear ev2 v2
    have ek2 : m2 (s + 12) (8 * (r : Int) + (κ : Int)) = (kn : Int) := (f2 _ _ (by omega)).trans ek
    obtain ⟨w1, w2, w3, w4, w5, w6, w7⟩ := id hR2.2.2.1.1
    have hX := w1.2.1
    have hX2 := w1.2.2.1.1
    obtain ⟨⟨kn1, kn6⟩, klow, knd, kok, ⟨kX, kx⟩, cd, cd1, cd2, cd3⟩ := nd_pos w1 hr hκ1 ek2
    rw [f2 (s + 6) _ (by omega)] at kX kx
    obtain ⟨a1, a2, a3, a4⟩ := w7 f hf1
    have h72 := (w6.2.2.1 f hf1).1
    rw [f2 72 _ (by omega)] at a1 a2 h72
    have eS : S1.getD f ([], []) = S0.getD f ([], []) := ExS_g hx1 hf
    refine ⟨⟨by omega, by omega⟩, ⟨by omega, by omega⟩, ⟨by omega, by omega⟩, ⟨by omega, by omega⟩, fun z => ?_, fun z => ?_⟩
    · refine nxt μ1 m2 l1 q1 T1 S1 hR2 e9' e11' (fun β hβ e _ => absurd ?_ z)
      rw [eS, ← e] at a1
      exact hX.2.2.1 _ _ _ kX a1
    · have ez : m1 (s + 6) (kn : Int) = m1 72 (f : Int) := Classical.byContradiction z
      rw [← ez] at a1 a2
      refine ⟨fun x' μ' => Wp (d + 13) 44 (142, [some (.ref 70), some (.int (zI x1)), some (.int (zI x2)), some (.int (zI (f : Int))), some (.int (zI x4)), some (.int (zI (κ : Int))), some (.int (zI (kn : Int)))], [.long x'], μ') Q, fun x μ' => Q (.inr x) μ', ?_, fun _ _ z => z, fun _ _ z => z⟩
      refine k_roomR (d := d + 11) hS1 hs hR2.2.2.1.1 hr (fun hle => ?_) (fun hgt => hthr μ1 m2 l1 q1 T1 S1 (RnT_t hS (RnG_t hS hR hR2) (rn_room hL hr hR2.2.2.1 hgt)))
      show Wp (d + 13) 44 (142, _, [.long _], _) Q
      refine K44_142 (d := d + 10) t1 t2 hq1 hs t5 ⟨⟨by omega, by omega⟩, fun z => ?_, fun z => ?_⟩
      · refine nxt μ1 m2 l1 q1 T1 S1 hR2 e9' e11' (fun β hβ e hcm => absurd (rmA_pos (ru := rs.getD r ruD) (S := S1) (β := β) (fun i hi => ?_)) (by omega))
        by_cases y : i = κ
        · rw [y, e, ← eS]
          exact gD_in hf1
        · obtain ⟨a, b1, b2, _⟩ := hcm i (Nat.zero_le _) hi (by omega)
          rw [← b2]
          exact ExS_m hx1 (gD_in b1)
      · refine ⟨fun x' μ' => Wp (d + 13) 44 (154, [some (.ref 70), some (.int (zI x1)), some (.int (zI x2)), some (.int (zI (f : Int))), some (.int (zI x4)), some (.int (zI (κ : Int))), some (.int (zI (kn : Int)))], [.int x'], μ') Q, noX, ?_, fun _ _ z => z, fun _ _ z => z.elim⟩
        obtain ⟨nn, en⟩ : ∃ nn : Nat, m2 s 6 = (nn : Int) := ⟨(m2 s 6).toNat, by have := (KV_n w1).2.2.1; omega⟩
        have hGr : GrI X q1 s m2 T1 nn := by
          have z := w5
          rw [show (m2 s 6).toNat = nn by omega] at z
          exact z
        have hnn := (KV_n w1).2.2.2
        have nb := noBd (X := X) (m := m2) (q := q1) (T := T1) (S := S1) (pos := posR (rs.getD r ruD)) (rfl : (-1 : Int) = -1)
        have ew : ((posR (rs.getD r ruD)).getD κ ([], [])).1 = (S1.getD f ([], [])).1 := hX.2.1 _ _ _ kX a1
        have el : ((posR (rs.getD r ruD)).getD κ ([], [])).2.length = (S1.getD f ([], [])).2.length := by
          rw [a2, ← cd3]
          rw [← cd3] at kX
          exact ((w3 _ ((mem_gD rs ruD _).mpr ⟨r, hr, rfl⟩)).2 cd cd1 (by omega) _ kX).symm
        have mt : ∀ β, (∀ j, j < ((posR (rs.getD r ruD)).getD κ ([], [])).2.length → sbC β (((posR (rs.getD r ruD)).getD κ ([], [])).2.getD j []) = (S1.getD f ([], [])).2.getD j []) ↔ sbA β ((posR (rs.getD r ruD)).getD κ ([], [])) = S1.getD f ([], []) := fun β => mt_iff ew el
        refine k_fits (d := d + 12) (qs := (S1.getD f ([], [])).2) t1 t2 hq1 hs t5 hX hX2 (show kn < nn by omega) (by omega) klow knd (ok_vb kok) w4 hGr nb.1 (nb.2.1 e8') (by omega) (fun j hj => a4 j (by omega)) (fun m' b' hXt hd' hb' hbt' fr => ?_) (fun m' hno hb' fr => ?_)
        · obtain ⟨hE', hK'⟩ := fx_st (l := l1) hs hS1 hR2.2.2.1 fr
          have hR3 : RnG X W s rs B lev k C0 μ1 m1 l1 q1 T1 S1 μ1 m' l1 q1 T1 S1 := RnG_t hS1 hR2 ⟨Kst_m jr_i hK', Nat.le_refl _, hE', ExS_r⟩
          have g9 : m' 70 9 = (r : Int) := (fr _ _ (by decide)).trans e9'
          have g10 : m' 70 10 = (κ : Int) := (fr _ _ (by decide)).trans e10'
          have g11 : m' 70 11 = (f : Int) := (fr _ _ (by decide)).trans e11'
          show Wp (d + 13) 44 (154, _, [.int _], _) Q
          refine K44_154 (d := d + 10) t1 t2 hq1 hs t5 ⟨⟨by decide, by decide⟩, fun z => absurd z (by decide), fun _ => ?_⟩
          refine ⟨fun μ' => Wp (d + 13) 44 (162, [some (.ref 70), some (.int (zI x1)), some (.int (zI x2)), some (.int (zI (f : Int))), some (.int (zI x4)), some (.int (zI (κ : Int))), some (.int (zI (kn : Int)))], [], μ') Q, fun x μ' => Q (.inr x) μ', ?_, fun _ z => z, fun _ _ z => z⟩
          have hBL' : BLg (posR (rs.getD r ruD)) b' (κ : Int) 0 S1 := by
            refine ⟨fun i hi hl => ?_, fun v hv => ?_⟩
            · have y3 : i = κ := by omega
              rw [y3]
              refine ⟨fun p hp c' hc' h5 => (hd' _).mpr (Or.inr ⟨c', List.mem_flatten.mpr ⟨p, hp, hc'⟩, by omega⟩), fun β hβ he => ?_⟩
              rw [(mt β).mp ((hXt β hβ).mp he).2]
              exact gD_in hf1
            · cases e : b' v with
              | none => exact absurd e hv
              | some p => exact (hb' v p e).1
          refine rn_join (d := d) (S0 := S0) hs hgo hr hL hC hl ⟨by omega, by omega⟩ ⟨by omega, by omega⟩ hS1 hE' g9 g10 g11 hx1 hb' hbt' hBL' (LT_cg (fun j => fS (RnG_t hS hR hR3) _ j (by omega) (by omega)) hLT) (fun μ3 m3 l3 q3 T3 S3 g3 dn3 a10 a11 a9 => ?_) (fun μ3 m3 l3 q3 T3 S3 t3 => hthr μ3 m3 l3 q3 T3 S3 (RnT_t hS (RnG_t hS hR hR3) t3))
          show Wp (d + 13) 44 (162, _, [], _) Q
          obtain ⟨u1, u2, u3, u4, u5, u6⟩ := Gw_S hS1 g3.1.1
          refine K44_162 (d := d + 10) u1 u2 (TQ_q u3) hs u5 (nxt μ3 m3 l3 q3 T3 S3 (RnG_t hS1 hR3 g3) a9 a11 (fun β hβ e hcm => dn3 β hβ ((hXt β hβ).mpr ⟨fun v p e => (nomatch e), (mt β).mpr (by rw [eS]; exact e)⟩) hcm))
        · obtain ⟨hE', hK'⟩ := fx_st (l := l1) hs hS1 hR2.2.2.1 fr
          have hR3 : RnG X W s rs B lev k C0 μ1 m1 l1 q1 T1 S1 μ1 m' l1 q1 T1 S1 := RnG_t hS1 hR2 ⟨Kst_m jr_i hK', Nat.le_refl _, hE', ExS_r⟩
          show Wp (d + 13) 44 (154, _, [.int _], _) Q
          refine K44_154 (d := d + 10) t1 t2 hq1 hs t5 ⟨⟨by decide, by decide⟩, fun _ => ?_, fun z => absurd rfl z⟩
          refine nxt μ1 m' l1 q1 T1 S1 hR3 ((fr _ _ (by decide)).trans e9') ((fr _ _ (by decide)).trans e11') (fun β hβ e _ => absurd ((mt β).mpr (by rw [eS]; exact e)) (hno β hβ (fun v p e => (nomatch e))))
/-- a group's recursive rules -/
theorem k_runRec {F G g : Nat} {S00 : List Atm} (hs : s = 22 ∨ s = 42) (hgo : GoS rs) (hC : C0 + 45000 ≤ 58192) (hS : ShW s μ q) (hG : Grp s rs m lev F G) (hg : g < G) (hk : lvl F g = k) (hE : EvC X W s rs B lev k C0 m q T S) (hx0 : ExS lev k S00 S) (hlow : ∀ a, a ∈ S00 → lev a.1 < k)
    (hret : ∀ (μ' : am_Mem) (m' l' : PM) (q' T' : Nat) (S' : List Atm), RnG X W s rs B lev k C0 μ m l q T S μ' m' l' q' T' S' → (∀ r, r < rs.length → lev (rs.getD r ruD).1.1 = k → (∃ c, c ∈ (rs.getD r ruD).2 ∧ c.1 = 1 ∧ lev c.2.1 = k) → Dal rs r S' S') → Q (.inl none) (sA μ' m' l'))
    (hthr : ∀ (μ' : am_Mem) (m' l' : PM) (q' T' : Nat) (S' : List Atm), RnT X W s rs B lev k C0 μ m l q T S μ' m' l' q' T' S' → Q (.inr 3) (sA (am_nX μ') m' l')) :
    Wp (d + 13) 44 (0, [some (.ref 70), some (.int (zI (g : Int))), some (.int (zI (S00.length : Int))), none, none, none, none], [], sA μ m l) Q := by
  obtain ⟨s1, s2, s3, s4, s5, s6⟩ := id hS
  have hq := TQ_q s3
  obtain ⟨⟨g1, g2, g3, g4⟩, hL, _, gLT, _, gg⟩ := hG
  obtain ⟨o, P, R, ⟨o1, o2, o3, o4⟩, _, p1, p3, p4, p5, p6⟩ := gg g hg
  have fS : ∀ {μ1 : am_Mem} {m1 l1 : PM} {q1 T1 : Nat} {S1 : List Atm}, RnG X W s rs B lev k C0 μ m l q T S μ1 m1 l1 q1 T1 S1 → ∀ c j, s ≤ c → c ≤ s + 19 → m1 c j = m c j := fun h c j a1 a2 => (h.1.2.1 c j (rn_o (j := j) hS hs (Or.inl ⟨a1, a2⟩)).2).1 (rn_o (j := j) hS hs (Or.inl ⟨a1, a2⟩)).1
  have negs : ∀ r, r ∈ R → ∀ c, c ∈ (rs.getD r ruD).2 → c.1 = 2 → lev c.2.1 < k := fun r hr c hc e => by
    obtain ⟨h1, h2⟩ := p3 r (Or.inr hr)
    rw [← hk, ← h2]
    exact (hL _ ((mem_gD rs ruD _).mpr ⟨r, h1, rfl⟩) c hc).2 e
  -- the rules, by one atom
  have rules : ∀ (f : Nat) (μ2 : am_Mem) (m2 l2 : PM) (q2 T2 : Nat) (S2 : List Atm), f < S2.length → RnG X W s rs B lev k C0 μ m l q T S μ2 m2 l2 q2 T2 S2 → (∀ (μ' : am_Mem) (m' l' : PM) (q' T' : Nat) (S' : List Atm) (x4 : Int) (o5 o6 : Option Value), RnG X W s rs B lev k C0 μ2 m2 l2 q2 T2 S2 μ' m' l' q' T' S' → (∀ r, r ∈ R → ∀ κ, κ < (posR (rs.getD r ruD)).length → Dpr rs r f S2 κ S') → Wp (d + 13) 44 (2, [some (.ref 70), some (.int (zI (g : Int))), some (.int (zI (S00.length : Int))), some (.int (zI ((f : Int) + 1))), some (.int (zI x4)), o5, o6], [], sA μ' m' l') Q) → ∀ (n ρ : Nat) (μ1 : am_Mem) (m1 l1 : PM) (q1 T1 : Nat) (S1 : List Atm) (o5 o6 : Option Value), ρ + n = R.length → RnG X W s rs B lev k C0 μ2 m2 l2 q2 T2 S2 μ1 m1 l1 q1 T1 S1 → m1 70 11 = (f : Int) → (∀ i, i < ρ → ∀ κ, κ < (posR (rs.getD (R.getD i 0) ruD)).length → Dpr rs (R.getD i 0) f S2 κ S1) → Wp (d + 13) 44 (36, [some (.ref 70), some (.int (zI (g : Int))), some (.int (zI (S00.length : Int))), some (.int (zI (f : Int))), some (.int (zI ((o : Int) + (P.length : Int) + (ρ : Int)))), o5, o6], [], sA μ1 m1 l1) Q := by
    intro f μ2 m2 l2 q2 T2 S2 hf hR2 hend n
    have hS2 := Gw_S hS hR2.1.1
    induction n with
    | zero =>
      intro ρ μ1 m1 l1 q1 T1 S1 o5 o6 hρ hR e11 hdn
      obtain ⟨t1, t2, t3, t4, t5, t6⟩ := Gw_S hS2 hR.1.1
      have e18 : m1 (s + 18) ((g : Int) + 1) = (o : Int) + (P.length : Int) + (R.length : Int) := (fS (RnG_t hS hR2 hR) _ _ (by omega) (by omega)).trans o3
      refine K44_36 (d := d + 10) t1 t2 (TQ_q t3) hs t5 ⟨⟨by omega, by omega⟩, ⟨by omega, by omega⟩, by rw [e18]; exact ⟨by omega, by omega⟩, fun _ => ?_, fun z => absurd (by rw [e18]; omega) z⟩
      refine hend μ1 m1 l1 q1 T1 S1 _ o5 o6 hR (fun r hr => ?_)
      obtain ⟨i, hi, ei⟩ := (mem_gD R 0 r).mp hr
      rw [← ei]
      exact hdn i (by omega)
    | succ n ih =>
      intro ρ μ1 m1 l1 q1 T1 S1 o5 o6 hρ hR e11 hdn
      have hS1 := Gw_S hS2 hR.1.1
      obtain ⟨t1, t2, t3, t4, t5, t6⟩ := id hS1
      have hRb := RnG_t hS hR2 hR
      have e18 : m1 (s + 18) ((g : Int) + 1) = (o : Int) + (P.length : Int) + (R.length : Int) := (fS hRb _ _ (by omega) (by omega)).trans o3
      have e17 : m1 (s + 17) ((o : Int) + (P.length : Int) + (ρ : Int)) = (R.getD ρ 0 : Int) := (fS hRb _ _ (by omega) (by omega)).trans (p1 ρ (by omega))
      have hm : R.getD ρ 0 ∈ R := gD_in (by omega)
      generalize hrr : R.getD ρ 0 = r at hm e17
      obtain ⟨hr, hl⟩ := p3 r (Or.inr hm)
      rw [hk] at hl
      refine K44_36 (d := d + 10) t1 t2 (TQ_q t3) hs t5 ⟨⟨by omega, by omega⟩, ⟨by omega, by omega⟩, by rw [e18]; exact ⟨by omega, by omega⟩, fun z => absurd z (by rw [e18]; omega), fun _ => ⟨⟨by omega, by omega⟩, fun m3 em3 => ?_⟩⟩
      rw [e17] at em3
      have f3 : ∀ c j, ¬ (c = 70 ∧ 8 ≤ j ∧ j ≤ 11) → m3 c j = m1 c j := fun c j z => by
        rw [em3, up_o (by omega)]
      have hR3 := w70_st (l := l1) hs hS1 hR.2.2.1 f3
      have e9' : m3 70 9 = (r : Int) := by rw [em3, up_s]
      have e11' : m3 70 11 = (f : Int) := by rw [em3, up_i (by decide)]; exact e11
      refine rc_69 (S0 := S2) hs hgo hC hL hr hl hS1 hR3.2.2.1 (LT_cg (fun j => fS (RnG_t hS hRb hR3) _ j (by omega) (by omega)) (gLT r hr).1) hf (ExS_t hR.2.2.2 hR3.2.2.2) (fun μ' m' l' q' T' S' o6' hR4 a11 hd4 => ?_) (fun μ' m' l' q' T' S' t4 => hthr μ' m' l' q' T' S' (RnT_t hS (RnG_t hS hRb hR3) t4)) (posR (rs.getD r ruD)).length 0 μ1 m3 l1 q1 T1 S1 o6 (by omega) (RnG_r hR3.2.2.1) e9' e11' (fun κ' h' => absurd h' (Nat.not_lt_zero κ'))
      have z := ih (ρ + 1) μ' m' l' q' T' S' (some (.int (zI ((posR (rs.getD r ruD)).length : Int)))) o6' (by omega) (RnG_t hS2 hR (RnG_t hS1 hR3 hR4)) a11 (fun i hi => by
        by_cases y : i = ρ
        · rw [y, hrr]; exact hd4
        · exact fun κ hκ β hβ h1 h2 ho => ExS_m (ExS_t hR3.2.2.2 hR4.2.2.2) (hdn i (by omega) κ hκ β hβ h1 h2 ho))
      rw [show (o : Int) + (P.length : Int) + ((ρ + 1 : Nat) : Int) = (o : Int) + (P.length : Int) + (ρ : Int) + 1 by omega] at z
      exact z
  have loop : ∀ (n f : Nat) (μ1 : am_Mem) (m1 l1 : PM) (q1 T1 : Nat) (S1 : List Atm) (o4 o5 o6 : Option Value), f + n = 1000 → RnG X W s rs B lev k C0 μ m l q T S μ1 m1 l1 q1 T1 S1 → f ≤ S1.length → (∀ r, r ∈ R → Dfr rs r f S1) → Wp (d + 13) 44 (2, [some (.ref 70), some (.int (zI (g : Int))), some (.int (zI (S00.length : Int))), some (.int (zI (f : Int))), o4, o5, o6], [], sA μ1 m1 l1) Q := by
    intro n
    induction n with
    | zero =>
      intro f μ1 m1 l1 q1 T1 S1 o4 o5 o6 hn hR hf hdn
      obtain ⟨t1, t2, t3, t4, t5, t6⟩ := Gw_S hS hR.1.1
      have e7 := hR.2.2.1.1.2.2.2.2.2.1.1
      have hS1000 := hR.2.2.1.1.2.2.2.2.2.1.2.1
      refine K44_2 (d := d + 10) t1 t2 (TQ_q t3) hs t5 ?_
      rw [e7]
      refine ⟨⟨by omega, by omega⟩, ⟨by omega, by omega⟩, fun _ => ?_, fun z => absurd z (by omega)⟩
      refine hret μ1 m1 l1 q1 T1 S1 hR (fun r hr hl hrc β hβ hps => ?_)
      rcases p4 r hr (by rw [hk]; exact hl) with hm | hm
      · obtain ⟨c, c1, c2, c3⟩ := hrc
        have := p5 r hm c c1 c2
        omega
      · refine hdn r hm β hβ (fun i hi => ?_)
        obtain ⟨a, a1, a2⟩ := (mem_gD S1 ([], []) _).mp (hps i hi)
        exact ⟨a, by omega, a2⟩
    | succ n ih =>
      intro f μ1 m1 l1 q1 T1 S1 o4 o5 o6 hn hR hf hdn
      have hS1 := Gw_S hS hR.1.1
      obtain ⟨t1, t2, t3, t4, t5, t6⟩ := id hS1
      have e7 := hR.2.2.1.1.2.2.2.2.2.1.1
      have hS1000 := hR.2.2.1.1.2.2.2.2.2.1.2.1
      have e19 : m1 (s + 19) (g : Int) = (o : Int) + (P.length : Int) := (fS hR _ _ (by omega) (by omega)).trans o2
      refine K44_2 (d := d + 10) t1 t2 (TQ_q t3) hs t5 ?_
      rw [e7, e19]
      refine ⟨⟨by omega, by omega⟩, ⟨by omega, by omega⟩, fun z => ?_, fun z => ⟨fun y => absurd y (by omega), fun _ => ⟨⟨by omega, by omega⟩, fun m2 em2 => ?_⟩⟩⟩
      · refine hret μ1 m1 l1 q1 T1 S1 hR (fun r hr hl hrc β hβ hps => ?_)
        rcases p4 r hr (by rw [hk]; exact hl) with hm | hm
        · obtain ⟨c, c1, c2, c3⟩ := hrc
          have := p5 r hm c c1 c2
          omega
        · refine hdn r hm β hβ (fun i hi => ?_)
          obtain ⟨a, a1, a2⟩ := (mem_gD S1 ([], []) _).mp (hps i hi)
          exact ⟨a, by omega, a2⟩
      · have f2 : ∀ c j, ¬ (c = 70 ∧ 8 ≤ j ∧ j ≤ 11) → m2 c j = m1 c j := fun c j z => by
          rw [em2, up_o (by omega)]
        have hR2 := RnG_t hS hR (w70_st (l := l1) hs hS1 hR.2.2.1 f2)
        have z := rules f μ1 m2 l1 q1 T1 S1 (by omega) hR2 (fun μ' m' l' q' T' S' x4 o5' o6' hR3 hd3 => by
          have hl3 := ExS_l hR3.2.2.2
          have z := ih (f + 1) μ' m' l' q' T' S' (some (.int (zI x4))) o5' o6' (by omega) (RnG_t hS hR2 hR3) (by omega) (fun r hr => Dfr_s (negs r hr) (by omega) hR3.2.2.2 (hdn r hr) (hd3 r hr))
          rw [show ((f + 1 : Nat) : Int) = (f : Int) + 1 by omega] at z
          exact z) R.length 0 μ1 m2 l1 q1 T1 S1 o5 o6 (by omega) (RnG_r hR2.2.2.1) (by rw [em2, up_s]) (fun i hi => absurd hi (Nat.not_lt_zero i))
        rw [show (o : Int) + (P.length : Int) + ((0 : Nat) : Int) = (o : Int) + (P.length : Int) by omega] at z
        exact z
  have hS1000 := hE.1.2.2.2.2.2.1.2.1
  have hl0 := ExS_l hx0
  refine K44_0 (d := d + 10) s1 s2 hq hs s5 (loop (1000 - S00.length) S00.length μ m l q T S none none none (by omega) (RnG_r hE) hl0 (fun r hr β hβ ha => ?_))
  obtain ⟨c, c1, c2, c3⟩ := p6 r hr
  obtain ⟨i, i1, i2⟩ := psR_m c1 c2
  obtain ⟨a, a1, a2⟩ := ha i i1
  have h1 := hlow _ (gD_in (e := ([], [])) a1)
  rw [← ExS_g hx0 a1, a2, i2, sbA_1] at h1
  omega
end CRR
