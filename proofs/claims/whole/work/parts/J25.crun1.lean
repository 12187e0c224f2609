/-! ===== the class at work: a group's rules, one after the other ===== -/
/-- what running a group writes -/
abbrev WRn (q c : Nat) (j : Int) : Prop := WCo q c j ∨ c = 83 ∨ (c = 70 ∧ 8 ≤ j ∧ j ≤ 11)
/-- how a run goes on -/
def RnG (X : Int → List Int → Prop) (W : Int → Nat) (s : Nat) (rs : List Rul) (B : List Atm → Prop) (lev : List Int → Nat) (k C0 : Nat) (μ : am_Mem) (m l : PM) (q T : Nat) (S : List Atm) (μ' : am_Mem) (m' l' : PM) (q' T' : Nat) (S' : List Atm) : Prop := Kst X (WRn q) T μ q m l μ' q' m' l' ∧ T ≤ T' ∧ EvC X W s rs B lev k C0 m' q' T' S' ∧ ExS lev k S S'
/-- how a run ends by a throw -/
def RnT (X : Int → List Int → Prop) (W : Int → Nat) (s : Nat) (rs : List Rul) (B : List Atm → Prop) (lev : List Int → Nat) (k C0 : Nat) (μ : am_Mem) (m l : PM) (q T : Nat) (S : List Atm) (μ' : am_Mem) (m' l' : PM) (q' T' : Nat) (S' : List Atm) : Prop := (∀ B', B B' → ¬ ∃ S', EvG rs B' S') ∧ Kst X (WRn q) T μ q m l μ' q' m' l' ∧ T ≤ T' ∧ T' ≤ C0 + 45000 ∧ ExS lev k S S' ∧ CwW X W s rs m' q' T' S'
/-- what a rule must do -/
abbrev Dal (rs : List Rul) (r : Nat) (S0 S : List Atm) : Prop := ∀ β, Gb β → (∀ i, i < (posR (rs.getD r ruD)).length → sbA β ((posR (rs.getD r ruD)).getD i ([], [])) ∈ S0) → Dn (rs.getD r ruD) S0 S β
theorem rmL_pos {S : List Atm} : ∀ L : List (Nat × Atm), (∀ c, c ∈ L → ∃ a, a ∈ S ∧ a.1 = c.2.1) → 1 ≤ rmL S L := by
  intro L
  induction L with
  | nil => intro _; exact Nat.le_refl _
  | cons c L ih =>
    intro h
    obtain ⟨a, a1, a2⟩ := h c List.mem_cons_self
    have h1 : 0 < cntA S c.2.1 := List.length_pos_of_mem (a := a) (List.mem_filter.mpr ⟨a1, by rw [a2]; exact decide_eq_true rfl⟩)
    have h2 := ih (fun c' hc => h c' (List.mem_cons_of_mem _ hc))
    exact Nat.mul_pos h1 h2
theorem rmA_pos {S : List Atm} {ru : Rul} {β : Nat → List Cd} (h : ∀ i, i < (posR ru).length → sbA β ((posR ru).getD i ([], [])) ∈ S) : 1 ≤ rmA S ru := by
  refine rmL_pos _ (fun c hc => ?_)
  obtain ⟨i, hi, e⟩ := (mem_gD _ cnD _).mp hc
  have z := h i (by rw [posR_l]; exact hi)
  rw [posR_g hi, e] at z
  exact ⟨_, z, rfl⟩
section CRN
variable {d : Nat} {Q : Option Value ⊕ Nat → am_Mem → Prop} {X : Int → List Int → Prop} {W : Int → Nat} {s k C0 r : Nat} {rs : List Rul} {B : List Atm → Prop} {S0 S : List Atm} {lev : List Int → Nat} {gv nw : Int} {b : Nat → Option (List Cd)} {μ : am_Mem} {m l : PM} {q T : Nat}
theorem rn_i {q1 : Nat} {μ1 : am_Mem} (hS : ShW s μ q) (h : Gw μ q μ1 q1) : ∀ c j, c < am_n μ → WRn q1 c j → WRn q c j := by
  intro c j hc z
  have := Gw_q hS h
  omega
theorem jr_i : ∀ c j, WJn q c j → WRn q c j := by
  intro c j z
  omega
theorem rn_o (hS : ShW s μ q) (hs : s = 22 ∨ s = 42) {c : Nat} {j : Int} (h : (s ≤ c ∧ c ≤ s + 19) ∨ c = 80 ∨ c = 81 ∨ (c = 70 ∧ ¬ (8 ≤ j ∧ j ≤ 11))) : ¬ WRn q c j ∧ c < am_n μ := by
  have := q_n hS
  omega
theorem RnG_r (h : EvC X W s rs B lev k C0 m q T S) : RnG X W s rs B lev k C0 μ m l q T S μ m l q T S := ⟨Kst_r, Nat.le_refl _, h, ExS_r⟩
theorem RnG_t {μ1 μ2 : am_Mem} {m1 l1 m2 l2 : PM} {q1 q2 T1 T2 : Nat} {S1 S2 : List Atm} (h : ShW s μ q) (g : RnG X W s rs B lev k C0 μ m l q T S μ1 m1 l1 q1 T1 S1) (g' : RnG X W s rs B lev k C0 μ1 m1 l1 q1 T1 S1 μ2 m2 l2 q2 T2 S2) : RnG X W s rs B lev k C0 μ m l q T S μ2 m2 l2 q2 T2 S2 := by
  obtain ⟨a1, a2, a3, a4⟩ := g
  obtain ⟨b1, b2, b3, b4⟩ := g'
  exact ⟨Kst_t h a2 (fun _ _ _ z => z) (rn_i h a1.1) a1 b1, by omega, b3, ExS_t a4 b4⟩
theorem RnT_t {μ1 μ2 : am_Mem} {m1 l1 m2 l2 : PM} {q1 q2 T1 T2 : Nat} {S1 S2 : List Atm} (h : ShW s μ q) (g : RnG X W s rs B lev k C0 μ m l q T S μ1 m1 l1 q1 T1 S1) (g' : RnT X W s rs B lev k C0 μ1 m1 l1 q1 T1 S1 μ2 m2 l2 q2 T2 S2) : RnT X W s rs B lev k C0 μ m l q T S μ2 m2 l2 q2 T2 S2 := by
  obtain ⟨a1, a2, a3, a4⟩ := g
  obtain ⟨b1, b2, b3, b4, b5, b6⟩ := g'
  exact ⟨b1, Kst_t h a2 (fun _ _ _ z => z) (rn_i h a1.1) a1 b2, by omega, b4, ExS_t a4 b5, b6⟩
theorem w70_f (hS : ShW s μ q) (hs : s = 22 ∨ s = 42) {c : Nat} {j : Int} (h : (s ≤ c ∧ c ≤ s + 19) ∨ c = 81 ∨ (71 ≤ c ∧ c ≤ 78) ∨ c = 83 ∨ (q ≤ c ∧ c ≤ q + 7) ∨ (c = 84 ∧ j = 9)) : ¬ (c = 70 ∧ 8 ≤ j ∧ j ≤ 11) := by
  have := hS.2.2.1
  omega
/-- the rule at work is noted -/
theorem w70_st {m' : PM} (hs : s = 22 ∨ s = 42) (hS : ShW s μ q) (hE : EvC X W s rs B lev k C0 m q T S) (f : ∀ c j, ¬ (c = 70 ∧ 8 ≤ j ∧ j ≤ 11) → m' c j = m c j) : RnG X W s rs B lev k C0 μ m l q T S μ m' l q T S := by
  have cg : ∀ t cs, t < T → Cg X q m t cs → Cg X q m' t cs := fun t cs ht h => CgR_cg (T := T) (fun t _ => ⟨f _ _ (w70_f hS hs (by omega)), f _ _ (w70_f hS hs (by omega)), fun i _ => f _ _ (w70_f hS hs (by omega))⟩) _ t cs ht h
  refine ⟨⟨Gw_r, fun c j hc => ⟨fun hw => f c j (fun z => hw (Or.inr (Or.inr z))), rfl⟩, cg⟩, Nat.le_refl _, ⟨CwW_st hs hE.1 (CtT_fr (fun c j z => f _ _ (w70_f hS hs (by omega))) hE.1.2.2.2.1) (Nat.le_refl _) (fun c j z1 z2 => f _ _ (w70_f hS hs (by omega))) (fun j => f _ _ (w70_f hS hs (by omega))) (fun c j z => f _ _ (w70_f hS hs (by omega))) cg, hE.2⟩, ExS_r⟩
/-- how many facts of a relation there are -/
theorem cnt_C (hX : XP X) (hF : FtS X q W m T S) {x : Int} {w : List Int} (hx : X x w) : cnF (m 72) x S.length = (cntA S w : Int) := by
  have key : ∀ j, j ≤ S.length → cnF (m 72) x j = (cntA (S.take j) w : Int) := by
    intro j
    induction j with
    | zero => intro _; rfl
    | succ j ih =>
      intro hj
      have hjl : j < S.length := by omega
      have a1 := (hF j hjl).1
      rw [List.take_succ_eq_append_getElem hjl, cnt_app]
      have eg : S.getD j ([], []) = S[j] := by
        rw [List.getD_eq_getElem?_getD, List.getElem?_eq_getElem hjl]
        rfl
      rw [eg] at a1
      show cnF (m 72) x j + (if m 72 (j : Int) = x then 1 else 0) = _
      rw [ih (by omega)]
      by_cases z : m 72 (j : Int) = x
      · rw [z] at a1
        rw [if_pos z, if_pos (hX.2.1 _ _ _ a1 hx)]
        omega
      · rw [if_neg z, if_neg (fun e => z (by rw [e] at a1; exact hX.2.2.1 _ _ _ a1 hx))]
        omega
  have := key S.length (Nat.le_refl _)
  rw [List.take_length] at this
  exact this
/-- the room of a rule, in the class's state -/
theorem k_roomR (hS : ShW s μ q) (hs : s = 22 ∨ s = 42) (hW : CwW X W s rs m q T S) (hr : r < rs.length) (hok : rmA S (rs.getD r ruD) ≤ 300000 → Q (.inl (some (.long (zL (rmA S (rs.getD r ruD) : Int))))) (sA μ m l)) (hX : 300000 < rmA S (rs.getD r ruD) → Q (.inr 3) (sA (am_nX μ) m l)) : Wp (d + 1) 38 (0, [some (.ref 70), some (.int (zI (r : Int))), none, none, none], [], sA μ m l) Q := by
  obtain ⟨s1, s2, s3, s4, s5, s6⟩ := id hS
  obtain ⟨w1, w2, w3, w4, w5, w6, w7⟩ := id hW
  obtain ⟨n13, n60, n0, n1000⟩ := KV_n w1
  obtain ⟨k1, k2, k3, k4, k5, k6⟩ := KV_rule w1 hr
  have e13 := k1.2.1.1
  have e : rmA S (rs.getD r ruD) = prL (fun j => cntA S ((psC (rs.getD r ruD).2).getD j cnD).2.1) (psC (rs.getD r ruD).2).length := rmL_pr S _
  rw [e] at hok hX
  refine k_roomOf (cnt := fun j => cntA S ((psC (rs.getD r ruD).2).getD j cnD).2.1) s1 s2 (TQ_q s3) hs s5 (by omega) (by omega) e13 (fun j hj => ?_) hok hX
  obtain ⟨p1, p2, p3⟩ := KV_pos w1 hr hj
  obtain ⟨c1, c2, c3, c4, c5, _⟩ := KV_cond w1 hr p1 p3
  have c6 := (c5 (by omega)).1
  refine ⟨by omega, c3, ?_, Nat.le_trans (List.length_filter_le _ _) w6.2.1⟩
  rw [(w6.2.2.2.1 _ c3.1 c3.2).1]
  exact cnt_C w1.2.1 w7 c6
/-- a rule's conditions are joined -/
theorem rn_join (hs : s = 22 ∨ s = 42) (hgo : GoS rs) (hr : r < rs.length) (hL : LvO lev rs) (hC : C0 + 45000 ≤ 58192) (hk : lev (rs.getD r ruD).1.1 = k) (hnw : -1 ≤ nw ∧ nw ≤ 1000) (hgi : -1 ≤ gv ∧ gv ≤ 1000) (hS : ShW s μ q) (hE : EvC X W s rs B lev k C0 m q T S) (e9 : m 70 9 = (r : Int)) (e10 : m 70 10 = gv) (e11 : m 70 11 = nw) (hx : ExS lev k S0 S) (hb : BdC X q m T b) (hbt : BtB m b) (hBL : BLg (posR (rs.getD r ruD)) b gv 0 S) (hLT : LT s rs m r 0)
    (hret : ∀ (μ' : am_Mem) (m' l' : PM) (q' T' : Nat) (S' : List Atm), RnG X W s rs B lev k C0 μ m l q T S μ' m' l' q' T' S' → DnJ rs r gv nw S0 0 b S' → m' 70 10 = gv → m' 70 11 = nw → m' 70 9 = (r : Int) → Q (.inl none) (sA μ' m' l'))
    (hthr : ∀ (μ' : am_Mem) (m' l' : PM) (q' T' : Nat) (S' : List Atm), RnT X W s rs B lev k C0 μ m l q T S μ' m' l' q' T' S' → Q (.inr 3) (sA (am_nX μ') m' l')) :
    Wp (d + 12) 39 (0, [some (.ref 70), some (.int (zI 0)), none, none, none, none, none, none, none, none, none], [], sA μ m l) Q := by
  obtain ⟨k1, k2, k3, k4, k5, k6⟩ := KV_rule hE.1.1 hr
  rw [← posR_l] at k5
  have hru : rs.getD r ruD ∈ rs := (mem_gD rs ruD _).mpr ⟨r, hr, rfl⟩
  have hJ : JnP X W s rs B lev k C0 r gv nw S0 (d + 8 - (posR (rs.getD r ruD)).length + (posR (rs.getD r ruD)).length + 4) 0 := k_join hs hr hL hC hk (fun c hc e => by rw [← hk]; exact (hL _ hru c hc).2 e) (RuF_of hgo hr) hnw hgi _ 0 _ (by omega)
  rw [show d + 8 - (posR (rs.getD r ruD)).length + (posR (rs.getD r ruD)).length + 4 = d + 12 by omega] at hJ
  refine hJ Q μ m l q T S b ⟨hS, hE, ⟨e9, e10, e11⟩, hx, hb, hbt, hBL, hLT⟩ (fun μ' m' l' q' T' S' g dn => ?_) (fun μ' m' l' q' T' S' t => ?_)
  · obtain ⟨g1, g2, g3, g4, g5, g6⟩ := g
    have hn := q_n hS
    have f : ∀ j : Int, ¬ j = 8 → m' 70 j = m 70 j := fun j hj => (g1.2.1 70 j (by omega)).1 (jn_o hS hs (Or.inl ⟨rfl, hj⟩)).1
    exact hret μ' m' l' q' T' S' ⟨Kst_m jr_i g1, g2, g3, g4⟩ dn ((f 10 (by decide)).trans e10) ((f 11 (by decide)).trans e11) ((f 9 (by decide)).trans e9)
  · obtain ⟨t1, t2, t3, t4, t5, t6⟩ := t
    exact hthr μ' m' l' q' T' S' ⟨t1, Kst_m jr_i t2, t3, t4, t5, t6⟩
/-- a rule that needs too much room -/
theorem rn_room (hL : LvO lev rs) (hr : r < rs.length) (hE : EvC X W s rs B lev k C0 m q T S) (h : 300000 < rmA S (rs.getD r ruD)) : RnT X W s rs B lev k C0 μ m l q T S μ m l q T S := by
  have := hE.2.2.2
  have := hE.1.2.2.2.2.2.1.2.1
  exact ⟨fun B' hB' => Prt_room hL (hE.2.1.2 B' hB') ((mem_gD rs ruD _).mpr ⟨r, hr, rfl⟩) h, Kst_r, Nat.le_refl _, by omega, ExS_r, hE.1⟩
theorem noBd {gv : Int} {pos : List Atm} (hg : gv = -1) : BdC X q m T (fun _ => none) ∧ (m 70 8 = 0 → BtB m (fun _ => none)) ∧ BLg pos (fun _ => none) gv 0 S := by
  refine ⟨fun v cs e => (nomatch e), fun e => ⟨0, by decide, e, fun v hv => ⟨fun z => ?_, fun z => absurd rfl z⟩⟩, fun i hi h => ?_, fun v hv => absurd rfl hv⟩
  · rw [Nat.zero_testBit] at z
    exact absurd z (by decide)
  · omega
/-- a group's plain rules -/
theorem k_runPlain {F G g : Nat} (hs : s = 22 ∨ s = 42) (hgo : GoS rs) (hC : C0 + 45000 ≤ 58192) (hS : ShW s μ q) (hG : Grp s rs m lev F G) (hg : g < G) (hk : lvl F g = k) (hE : EvC X W s rs B lev k C0 m q T S)
    (hret : ∀ (μ' : am_Mem) (m' l' : PM) (q' T' : Nat) (S' : List Atm), RnG X W s rs B lev k C0 μ m l q T S μ' m' l' q' T' S' → (∀ r, r < rs.length → lev (rs.getD r ruD).1.1 = k → (∀ c, c ∈ (rs.getD r ruD).2 → c.1 = 1 → lev c.2.1 < k) → Dal rs r S' S') → Q (.inl none) (sA μ' m' l'))
    (hthr : ∀ (μ' : am_Mem) (m' l' : PM) (q' T' : Nat) (S' : List Atm), RnT X W s rs B lev k C0 μ m l q T S μ' m' l' q' T' S' → Q (.inr 3) (sA (am_nX μ') m' l')) :
    Wp (d + 13) 37 (0, [some (.ref 70), some (.int (zI (g : Int))), none], [], sA μ m l) Q := by
  obtain ⟨s1, s2, s3, s4, s5, s6⟩ := id hS
  have hq := TQ_q s3
  obtain ⟨⟨g1, g2, g3, g4⟩, hL, _, gLT, _, gg⟩ := hG
  obtain ⟨o, P, R, ⟨o1, o2, o3, o4⟩, p1, _, p3, p4, p5, p6⟩ := gg g hg
  have fS : ∀ {μ1 : am_Mem} {m1 l1 : PM} {q1 T1 : Nat} {S1 : List Atm}, RnG X W s rs B lev k C0 μ m l q T S μ1 m1 l1 q1 T1 S1 → ∀ c j, s ≤ c → c ≤ s + 19 → m1 c j = m c j := fun h c j a1 a2 => (h.1.2.1 c j (rn_o (j := j) hS hs (Or.inl ⟨a1, a2⟩)).2).1 (rn_o (j := j) hS hs (Or.inl ⟨a1, a2⟩)).1
  have loop : ∀ (f i : Nat) (μ1 : am_Mem) (m1 l1 : PM) (q1 T1 : Nat) (S1 : List Atm), i + f = P.length → RnG X W s rs B lev k C0 μ m l q T S μ1 m1 l1 q1 T1 S1 → m1 70 10 = -1 → m1 70 11 = 1000 → (∀ j, j < i → Dal rs (P.getD j 0) S S1) → Wp (d + 13) 37 (22, [some (.ref 70), some (.int (zI (g : Int))), some (.int (zI ((o : Int) + (i : Int))))], [], sA μ1 m1 l1) Q := by
    intro f
    induction f with
    | zero =>
      intro i μ1 m1 l1 q1 T1 S1 hi hR e10 e11 hdn
      obtain ⟨t1, t2, t3, t4, t5, t6⟩ := Gw_S hS hR.1.1
      have e19 : m1 (s + 19) (g : Int) = (o : Int) + (P.length : Int) := (fS hR _ _ (by omega) (by omega)).trans o2
      refine K37_22 (d := d + 10) t1 t2 (TQ_q t3) hs t5 ⟨⟨by omega, by omega⟩, ⟨by omega, by omega⟩, by rw [e19]; exact ⟨by omega, by omega⟩, fun _ => ?_, fun z => absurd (by rw [e19]; omega) z⟩
      refine hret μ1 m1 l1 q1 T1 S1 hR (fun r hr hl hpl β hβ hps => ?_)
      rcases p4 r hr (by rw [hk]; exact hl) with hm | hm
      · obtain ⟨j, hj, ej⟩ := (mem_gD P 0 r).mp hm
        have z := hdn j (by omega)
        rw [ej] at z
        refine Dn_st hR.2.2.2 (fun c hc e => by rw [← hl]; exact (hL _ ((mem_gD rs ruD _).mpr ⟨r, hr, rfl⟩) c hc).2 e) (fun _ h => h) (z β hβ (fun i hi => ?_))
        obtain ⟨L, eL, hLk⟩ := hR.2.2.2
        have h1 := hps i hi
        rw [eL] at h1
        rcases List.mem_append.mp h1 with h1 | h1
        · exact h1
        · have h2 := hLk _ h1
          have hi' : i < (psC (rs.getD r ruD).2).length := by rw [← posR_l]; exact hi
          rw [posR_g hi', sbA_1] at h2
          have hc := psC_mem.mp ((mem_gD (psC (rs.getD r ruD).2) cnD _).mpr ⟨i, hi', rfl⟩)
          have := hpl _ hc.1 hc.2
          omega
      · obtain ⟨c, c1, c2, c3⟩ := p6 r hm
        have := hpl c c1 c2
        omega
    | succ f ih =>
      intro i μ1 m1 l1 q1 T1 S1 hi hR e10 e11 hdn
      have hS1 := Gw_S hS hR.1.1
      obtain ⟨t1, t2, t3, t4, t5, t6⟩ := id hS1
      have e19 : m1 (s + 19) (g : Int) = (o : Int) + (P.length : Int) := (fS hR _ _ (by omega) (by omega)).trans o2
      have e17 : m1 (s + 17) ((o : Int) + (i : Int)) = (P.getD i 0 : Int) := (fS hR _ _ (by omega) (by omega)).trans (p1 i (by omega))
      have hm : P.getD i 0 ∈ P := gD_in (by omega)
      generalize hrr : P.getD i 0 = r at hm e17
      obtain ⟨hr, hl⟩ := p3 r (Or.inl hm)
      rw [hk] at hl
      refine K37_22 (d := d + 10) t1 t2 (TQ_q t3) hs t5 ⟨⟨by omega, by omega⟩, ⟨by omega, by omega⟩, by rw [e19]; exact ⟨by omega, by omega⟩, fun z => absurd z (by rw [e19]; omega), fun _ => ⟨⟨by omega, by omega⟩, fun m2 em2 => ?_⟩⟩
      rw [e17] at em2 ⊢
      have f2 : ∀ c j, ¬ (c = 70 ∧ 8 ≤ j ∧ j ≤ 11) → m2 c j = m1 c j := fun c j z => by
        rw [em2, up_o (by omega), up_o (by omega)]
      have hR2 := RnG_t hS hR (w70_st (l := l1) hs hS1 hR.2.2.1 f2)
      have e8' : m2 70 8 = 0 := by rw [em2, up_s]
      have e9' : m2 70 9 = (r : Int) := by rw [em2, up_i (by decide), up_s]
      have e10' : m2 70 10 = -1 := by rw [em2, up_i (by decide), up_i (by decide)]; exact e10
      have e11' : m2 70 11 = 1000 := by rw [em2, up_i (by decide), up_i (by decide)]; exact e11
      have nxt : ∀ (μ3 : am_Mem) (m3 l3 : PM) (q3 T3 : Nat) (S3 : List Atm), RnG X W s rs B lev k C0 μ1 m2 l1 q1 T1 S1 μ3 m3 l3 q3 T3 S3 → m3 70 10 = -1 → m3 70 11 = 1000 → Dal rs r S S3 → Wp (d + 13) 37 (22, [some (.ref 70), some (.int (zI (g : Int))), some (.int (zI ((o : Int) + (i : Int) + 1)))], [], sA μ3 m3 l3) Q := by
        intro μ3 m3 l3 q3 T3 S3 hR3 a1 a2 a3
        have z := ih (i + 1) μ3 m3 l3 q3 T3 S3 (by omega) (RnG_t hS hR2 hR3) a1 a2 (fun j hj => by
          by_cases y : j = i
          · rw [y, hrr]; exact a3
          · exact fun β hβ hp ho => ExS_m hR3.2.2.2 (hdn j (by omega) β hβ hp ho))
        rw [show (o : Int) + ((i + 1 : Nat) : Int) = (o : Int) + (i : Int) + 1 by omega] at z
        exact z
      refine ⟨fun x' μ' => Wp (d + 13) 37 (61, [some (.ref 70), some (.int (zI (g : Int))), some (.int (zI ((o : Int) + (i : Int))))], [.long x'], μ') Q, fun x μ' => Q (.inr x) μ', ?_, fun _ _ z => z, fun _ _ z => z⟩
      refine k_roomR (d := d + 11) hS1 hs hR2.2.2.1.1 hr (fun hle => ?_) (fun hgt => hthr μ1 m2 l1 q1 T1 S1 (RnT_t hS hR2 (rn_room hL hr hR2.2.2.1 hgt)))
      show Wp (d + 13) 37 (61, _, [.long _], _) Q
      refine K37_61 (d := d + 10) t1 t2 (TQ_q t3) hs t5 ⟨⟨by omega, by omega⟩, fun z => ?_, fun z => ?_⟩
      · refine nxt μ1 m2 l1 q1 T1 S1 (RnG_r hR2.2.2.1) e10' e11' (fun β hβ hps => absurd (rmA_pos (ru := rs.getD r ruD) (S := S1) (β := β) (fun i hi => ExS_m hR.2.2.2 (hps i hi))) (by omega))
      · refine ⟨fun μ' => Wp (d + 13) 37 (71, [some (.ref 70), some (.int (zI (g : Int))), some (.int (zI ((o : Int) + (i : Int))))], [], μ') Q, fun x μ' => Q (.inr x) μ', ?_, fun _ z => z, fun _ _ z => z⟩
        have nb := noBd (X := X) (m := m2) (q := q1) (T := T1) (S := S1) (pos := posR (rs.getD r ruD)) (rfl : (-1 : Int) = -1)
        refine rn_join (d := d) (S0 := S) hs hgo hr hL hC hl (by decide) (by decide) hS1 hR2.2.2.1 e9' e10' e11' hR.2.2.2 nb.1 (nb.2.1 e8') nb.2.2 (LT_cg (fun j => fS hR2 _ j (by omega) (by omega)) (gLT r hr).1) (fun μ3 m3 l3 q3 T3 S3 g3 dn3 a10 a11 a9 => ?_) (fun μ3 m3 l3 q3 T3 S3 t3 => hthr μ3 m3 l3 q3 T3 S3 (RnT_t hS hR2 t3))
        show Wp (d + 13) 37 (71, _, [], _) Q
        obtain ⟨u1, u2, u3, u4, u5, u6⟩ := Gw_S hS1 g3.1.1
        refine K37_71 (d := d + 10) u1 u2 (TQ_q u3) hs u5 (nxt μ3 m3 l3 q3 T3 S3 g3 a10 a11 (fun β hβ hps => dn3 β hβ (fun v p e => (nomatch e)) (fun i _ i1 _ => ?_)))
        obtain ⟨a, a1, a2⟩ := (mem_gD S ([], []) _).mp (hps i i1)
        have := hE.1.2.2.2.2.2.1.2.1
        exact ⟨a, a1, a2, fun h => by omega, by omega⟩
  refine K37_0 (d := d + 10) s1 s2 hq hs s5 ⟨⟨by omega, by omega⟩, fun m1 em1 => ?_⟩
  rw [o1]
  have f1 : ∀ c j, ¬ (c = 70 ∧ 8 ≤ j ∧ j ≤ 11) → m1 c j = m c j := fun c j z => by
    rw [em1, up_o (by omega), up_o (by omega)]
  have z := loop P.length 0 μ m1 l q T S (by omega) (w70_st (l := l) hs hS hE f1) (by rw [em1, up_i (by decide), up_s]) (by rw [em1, up_s]) (fun j hj => absurd hj (Nat.not_lt_zero j))
  rw [show (o : Int) + ((0 : Nat) : Int) = (o : Int) by omega] at z
  exact z
end CRN
