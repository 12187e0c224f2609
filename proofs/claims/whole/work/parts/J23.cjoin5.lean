/-! ===== the class at work: join ===== -/
section CJ5
variable {d : Nat} {Q : Option Value ⊕ Nat → am_Mem → Prop} {X : Int → List Int → Prop} {W : Int → Nat} {s k C0 r lv : Nat} {rs : List Rul} {B : List Atm → Prop} {S0 S : List Atm} {lev : List Int → Nat} {gv nw : Int} {b : Nat → Option (List Cd)} {μ : am_Mem} {m l : PM} {q T : Nat}
theorem Kst_m {W1 Wf : Nat → Int → Prop} {μ1 : am_Mem} {m1 l1 : PM} {q1 : Nat} (i1 : ∀ c j, W1 c j → Wf c j) (h : Kst X W1 T μ q m l μ1 q1 m1 l1) : Kst X Wf T μ q m l μ1 q1 m1 l1 := ⟨h.1, fun c j hc => ⟨fun hw => (h.2.1 c j hc).1 (fun z => hw (i1 c j z)), (h.2.1 c j hc).2⟩, h.2.2⟩
theorem wc_70 (hS : ShW s μ q) {j : Int} : ¬ WCo q 70 j ∧ ¬ WCo q 83 j := by
  have := hS.2.2.1
  omega
theorem agF {β : Nat → List Cd} {a : Atm} (hbd : ∀ p, p ∈ a.2 → ∀ c, c ∈ p → 5 ≤ c.1 → ¬ b (c.1 - 5) = none) (he : Ext b β) : sbA β a = sbA (fulB b) a := sbA_agree (fun p hp c hc h5 => by
  cases e : b (c.1 - 5) with
  | none => exact absurd e (hbd p hp c hc h5)
  | some p' => rw [he _ _ e, fulB_e b _ _ e])
theorem bd_of {a : Atm} (hbd : ∀ p, p ∈ a.2 → ∀ c, c ∈ p → 5 ≤ c.1 → ¬ b (c.1 - 5) = none) : bdC b a.2.flatten := fun c hc h5 => by
  obtain ⟨p, hp, hc'⟩ := List.mem_flatten.mp hc
  cases e : b (c.1 - 5) with
  | none => exact absurd e (hbd p hp c hc' h5)
  | some p' => exact ⟨p', rfl⟩
/-- a step that leaves the bindings -/
theorem co_G {μ' : am_Mem} {m' l' : PM} {q' T' : Nat} {S' : List Atm} (h : JnS X W s rs B lev k C0 r gv nw S0 lv μ m q T S b) (hK : Kst X (WCo q) T μ q m l μ' q' m' l') (hT : T ≤ T') (hE : EvC X W s rs B lev k C0 m' q' T' S') (hx : ExS lev k S S') : JnG X W s rs B lev k C0 μ m l q T S b μ' m' l' q' T' S' := by
  have hn := q_n h.1
  have z := fun j => wc_70 h.1 (j := j)
  exact ⟨Kst_m (fun c j z => wc_j z) hK, hT, hE, hx, (hK.2.1 70 8 (by omega)).1 (z 8).1, BdC_st hT (fun j => (hK.2.1 83 j (by omega)).1 (z j).2) hK.2.2 h.2.2.2.2.1⟩
theorem JnS_i {lv' : Nat} (h : JnS X W s rs B lev k C0 r gv nw S0 lv μ m q T S b) (hB : BLg (posR (rs.getD r ruD)) b gv lv' S) : JnS X W s rs B lev k C0 r gv nw S0 lv' μ m q T S b := ⟨h.1, h.2.1, h.2.2.1, h.2.2.2.1, h.2.2.2.2.1, h.2.2.2.2.2.1, hB, h.2.2.2.2.2.2.2⟩
theorem nodup_at {L : List Atm} (h : L.Nodup) {i j : Nat} (hi : i < L.length) (hj : j < L.length) (e : L.getD i ([], []) = L.getD j ([], [])) : i = j := by
  rw [List.getD_eq_getElem?_getD, List.getElem?_eq_getElem hi, List.getD_eq_getElem?_getD, List.getElem?_eq_getElem hj] at e
  exact (List.getElem_inj h).mp e
/-- to the loop -/
theorem jn_258 {kn : Nat} {la x4 : Int} (hs : s = 22 ∨ s = 42) (hr : r < rs.length) (hJ : JnP X W s rs B lev k C0 r gv nw S0 (d + 2) (lv + 1)) (hlv : lv < (posR (rs.getD r ruD)).length) (hgv : ¬ (lv : Int) = gv) (hnw : -1 ≤ nw ∧ nw ≤ 1000) (hla : la = if gv ≤ (lv : Int) then nw else nw - 1) (h : JnS X W s rs B lev k C0 r gv nw S0 lv μ m q T S b) (ek : m (s + 12) (8 * (r : Int) + (lv : Int)) = (kn : Int)) (h2 : ∀ c, c ∈ (rs.getD r ruD).2 → c.1 = 3 → c.2.2.length = 2)
    (hret : ∀ (μ' : am_Mem) (m' l' : PM) (q' T' : Nat) (S' : List Atm), JnG X W s rs B lev k C0 μ m l q T S b μ' m' l' q' T' S' → DnJ rs r gv nw S0 lv b S' → Q (.inl none) (sA μ' m' l'))
    (hthr : ∀ (μ' : am_Mem) (m' l' : PM) (q' T' : Nat) (S' : List Atm), JnT X W s rs B lev k C0 μ m l q T S μ' m' l' q' T' S' → Q (.inr 3) (sA (am_nX μ') m' l')) :
    (0 ≤ 8 * (r : Int) + (lv : Int) ∧ 8 * (r : Int) + (lv : Int) < 480) ∧ iR (zAnd (zAnd (m (s + 10) (kn : Int)) (zXor (m 70 8) (-1))) (m (s + 14) (8 * (r : Int) + (lv : Int)))) ∧ ∀ v3 : Int, v3 = zAnd (m (s + 10) (kn : Int)) (zXor (m 70 8) (-1)) → ∀ v4 : Int, v4 = (if ¬ zAnd (zAnd (m (s + 10) (kn : Int)) (zXor (m 70 8) (-1))) (m (s + 14) (8 * (r : Int) + (lv : Int))) = 0 then (0 : Int) else 1) → (0 ≤ m (s + 6) (kn : Int) ∧ m (s + 6) (kn : Int) < 1024) ∧ Wp (d + 3) 39 (258, [some (.ref 70), some (.int (zI (lv : Int))), some (.int (zI (kn : Int))), some (.int (zI la)), some (.int (zI x4)), some (.int (zI v3)), some (.int (zI v4)), some (.int (zI 0)), some (.int (zI (m 70 8))), some (.int (zI (m 77 (m (s + 6) (kn : Int))))), some (.int (zI (m 78 (m (s + 6) (kn : Int)))))], [], sA μ m l) Q := by
  obtain ⟨hSh, hE, ⟨e9, e10, e11⟩, hx, hb, hbt, hBL, hLT⟩ := id h
  obtain ⟨n13, n60, n0, n1000⟩ := KV_n hE.1.1
  obtain ⟨k1, k2, k3, k4, k5, k6⟩ := KV_rule hE.1.1 hr
  obtain ⟨⟨kn1, kn6⟩, klow, knd, kok, ⟨kX, kx⟩, cd, cd1, cd2, cd3⟩ := nd_pos hE.1.1 hr hlv ek
  have hlv' := hlv
  rw [posR_l] at hlv'
  obtain ⟨u, u1, u2, u3, _⟩ := bd_bits hbt (vmC_lt _ (ok_vb kok))
  obtain ⟨w, w1, w2, w3⟩ := hLT lv (Nat.zero_le _) hlv'
  obtain ⟨a1, a2⟩ := zAnd2 u1 w2
  have hFI := hE.1.2.2.2.2.2.1
  obtain ⟨f1, f2⟩ := hFI.2.2.2.1 _ kx.1 kx.2
  rw [knd.2.2.1, u2, w1, a1, f1]
  refine ⟨⟨by omega, by omega⟩, ⟨by omega, by omega⟩, fun v3 e3 v4 e4 => ⟨kx, ?_⟩⟩
  refine jl_258 (l0 := l) hs hr hJ hlv hgv hnw hla h ek rfl ?_ h2 hret hthr S.length μ m l q T S 0 _ (Nat.le_refl _) (JnG_r h) (fun β _ _ _ a ga a1 _ _ => absurd (ExS_l hx) (by omega)) (Or.inl rfl) f2
  rw [e4]
  by_cases y : ((u &&& w : Nat) : Int) = 0
  · rw [if_neg (fun z => z y)]
    refine Or.inr ⟨rfl, fun v hv hb' hm => ?_⟩
    obtain ⟨p, p1, c, c1, c2⟩ := hv
    have t1 : u.testBit v = true := (u3 v).mpr ⟨⟨c, List.mem_flatten.mpr ⟨p, p1, c1⟩, c2⟩, fun _ => hb'⟩
    have t2 : w.testBit v = true := (w3 v).mpr hm
    have t3 : (u &&& w).testBit v = true := by rw [Nat.testBit_and, t1, t2]; rfl
    rw [show u &&& w = 0 by omega, Nat.zero_testBit] at t3
    exact absurd t3 (by decide)
  · rw [if_pos y]
    exact Or.inl rfl
/-- join -/
theorem k_join (hs : s = 22 ∨ s = 42) (hr : r < rs.length) (hL : LvO lev rs) (hC : C0 + 45000 ≤ 58192) (hk : lev (rs.getD r ruD).1.1 = k) (hneg : ∀ c, c ∈ (rs.getD r ruD).2 → c.1 = 2 → lev c.2.1 < k) (hF : RuF (rs.getD r ruD) (posR (rs.getD r ruD))) (hnw : -1 ≤ nw ∧ nw ≤ 1000) (hgi : -1 ≤ gv ∧ gv ≤ 1000) : ∀ (f lv d : Nat), lv + f = (posR (rs.getD r ruD)).length → JnP X W s rs B lev k C0 r gv nw S0 (d + f + 4) lv := by
  intro f
  induction f with
  | zero =>
    intro lv d hlv Q μ m l q T S b h hret hthr
    obtain ⟨hSh, hE, ⟨e9, e10, e11⟩, hx, hb, hbt, hBL, hLT⟩ := id h
    obtain ⟨s1, s2, s3, s4, s5, s6⟩ := id hSh
    obtain ⟨k1, k2, k3, k4, k5, k6⟩ := KV_rule hE.1.1 hr
    have e13 := k1.2.1.1
    rw [← posR_l] at e13 k5
    have hlv' : lv = (posR (rs.getD r ruD)).length := by omega
    refine K39_0 (d := d + 1) s1 s2 (TQ_q s3) hs s5 ?_
    rw [e9, e13]
    refine ⟨⟨by omega, by omega⟩, ⟨by omega, by omega⟩, ⟨by omega, by omega⟩, fun z => absurd z (by omega), fun _ => ⟨fun μ' => Wp (d + 1 + 3) 39 (20, [some (.ref 70), some (.int (zI (lv : Int))), none, none, none, none, none, none, none, none, none], [], μ') Q, fun x μ' => Q (.inr x) μ', ?_, fun _ z => z, fun _ _ z => z⟩⟩
    rw [hlv'] at hBL
    refine jn_fire (d := d) hSh hs hr hL hC hk hneg hF hE e9 hx hb (BLg_v hBL) (fun μ' m' l' q' T' S' hK hT hE' hx' hd => ?_) (fun μ' m' l' q' T' hno hK t1 t2 hW' => ?_)
    · show Wp (d + 1 + 3) 39 (20, _, [], _) Q
      have hG := co_G h hK hT hE' hx'
      obtain ⟨t1, t2, t3, t4, t5, t6⟩ := Gw_S hSh hG.1.1
      exact K39_20 t1 t2 (TQ_q t3) hs t5 (hret μ' m' l' q' T' S' hG (fun β hβ he _ => hd β hβ he))
    · exact hthr μ' m' l' q' T' S ⟨hno, Kst_m (fun c j z => wc_j z) hK, t1, t2, ExS_r, hW'⟩
  | succ f ih =>
    intro lv d hlv Q μ m l q T S b h hret hthr
    have hlv1 : lv < (posR (rs.getD r ruD)).length := by omega
    have hJ : JnP X W s rs B lev k C0 r gv nw S0 (d + f + 2 + 2) (lv + 1) := ih (lv + 1) d (by omega)
    obtain ⟨hSh, hE, ⟨e9, e10, e11⟩, hx, hb, hbt, hBL, hLT⟩ := id h
    obtain ⟨s1, s2, s3, s4, s5, s6⟩ := id hSh
    have hq := TQ_q s3
    obtain ⟨w1, w2, w3, w4, w5, w6, w7⟩ := id hE.1
    obtain ⟨n13, n60, n0, n1000⟩ := KV_n w1
    obtain ⟨k1, k2, k3, k4, k5, k6⟩ := KV_rule w1 hr
    have hrm : rs.getD r ruD ∈ rs := (mem_gD rs ruD _).mpr ⟨r, hr, rfl⟩
    have e13 := k1.2.1.1
    rw [← posR_l] at e13 k5
    obtain ⟨kn, ek⟩ : ∃ kn : Nat, m (s + 12) (8 * (r : Int) + (lv : Int)) = (kn : Int) := by
      obtain ⟨p1, p2, p3⟩ := KV_pos w1 hr (by rw [← posR_l]; exact hlv1)
      have := (KV_cond w1 hr p1 p3).2.1
      exact ⟨(m (s + 12) (8 * (r : Int) + (lv : Int))).toNat, by omega⟩
    obtain ⟨⟨kn1, kn6⟩, klow, knd, kok, ⟨kX, kx⟩, cd, cd1, cd2, cd3⟩ := nd_pos w1 hr hlv1 ek
    have hWk : ∀ y, X y ((posR (rs.getD r ruD)).getD lv ([], [])).1 → W y = ((posR (rs.getD r ruD)).getD lv ([], [])).2.length := fun y hy => by
      rw [← cd3] at hy ⊢
      exact (w3 _ hrm).2 cd cd1 (by omega) y hy
    obtain ⟨hA, hOk, hXl, hlb, hhd⟩ := KV_head w1 hr
    obtain ⟨hn, ehn⟩ : ∃ hn : Nat, m (s + 11) (r : Int) = (hn : Int) := ⟨(m (s + 11) (r : Int)).toNat, by omega⟩
    rw [ehn] at hA hXl hlb hhd
    obtain ⟨A1, A2, A3⟩ := hA
    have A2' : 0 ≤ (hn : Int) - ((rs.getD r ruD).1.2.flatten.length : Int) := A2
    have A3' : NdC X s 11 m (hn : Int) (fun x => X x (rs.getD r ruD).1.1) (rs.getD r ruD).1.2 := A3
    obtain ⟨u, u1, u2, _, u4⟩ := bd_bits hbt (vmC_lt _ (ok_vb kok))
    obtain ⟨uh, v1, v2, _, v4⟩ := bd_bits hbt (vmC_lt _ (ok_vb hOk))
    have hT1 : T + 1000 ≤ 58192 := by
      have := hE.2.2.2
      have := w6.2.1
      omega
    have hla : (if gv ≤ (lv : Int) then nw else nw - 1) = nw ∨ (if gv ≤ (lv : Int) then nw else nw - 1) = nw - 1 := by
      by_cases y : gv ≤ (lv : Int)
      · rw [if_pos y]; exact Or.inl rfl
      · rw [if_neg y]; exact Or.inr rfl
    have lu : ∀ {μ' : am_Mem} {m' l' : PM} {q' : Nat}, Kst X (WLu q) T μ q m l μ' q' m' l' → CwW X W s rs m' q' T S → JnG X W s rs B lev k C0 μ m l q T S b μ' m' l' q' T S := fun hK hW' => co_G h (Kst_m (fun c j z => Or.inl z) hK) (Nat.le_refl _) ⟨hW', hE.2⟩ ExS_r
    refine K39_0 (d := d + f + 2) s1 s2 hq hs s5 ?_
    rw [e9, e10, e11, e13, ek, ehn]
    refine ⟨⟨by omega, by omega⟩, ⟨by omega, by omega⟩, ⟨by omega, by omega⟩, fun _ => ⟨⟨by omega, by omega⟩, fun hg => ⟨⟨by omega, by omega⟩, ?_⟩, fun hg => ?_⟩, fun z => absurd z (by omega)⟩
    · rintro y1 rfl y2 ey2
      have kbits : zAnd (m (s + 10) (kn : Int)) (zXor (m 70 8) (-1)) = (u : Int) := by rw [knd.2.2.1]; exact u2
      have hbits : zAnd (m (s + 10) (hn : Int)) (zXor (m 70 8) (-1)) = (uh : Int) := by rw [A3'.2.2.1]; exact v2
      have hy2 : -2 ≤ y2 ∧ y2 ≤ 1000 := by omega
      refine ⟨⟨by omega, by omega⟩, by rw [kbits]; exact ⟨by omega, by omega⟩, fun hu => ⟨⟨by omega, by omega⟩, by rw [hbits]; exact ⟨by omega, by omega⟩, fun hh => ?_, fun hh => ?_⟩, fun hu => ?_⟩
      · exact jn_258 hs hr hJ hlv1 hg hnw ey2 h ek hF.2.2.2.2 hret hthr
      · -- the head is bound: is it a fact already?
        rw [hbits] at hh
        have huh : uh = 0 := by omega
        have hbd : ∀ p, p ∈ (rs.getD r ruD).1.2 → ∀ c, c ∈ p → 5 ≤ c.1 → ¬ b (c.1 - 5) = none := fun p hp c hc h5 => v4.mp huh c (List.mem_flatten.mpr ⟨p, hp, hc⟩) h5 (ok_vb hOk c (List.mem_flatten.mpr ⟨p, hp, hc⟩) h5)
        refine ⟨fun x' μ' => Wp (d + f + 2 + 3) 39 (158, [some (.ref 70), some (.int (zI (lv : Int))), some (.int (zI (kn : Int))), some (.int (zI y2)), some (.int (zI (hn : Int))), none, none, none, none, none, none], [.int x'], μ') Q, noX, ?_, fun _ _ z => z, fun _ _ z => z.elim⟩
        refine k_lookUp (d := d + f + 1) (w := (rs.getD r ruD).1.1) (ps := (rs.getD r ruD).1.2) hSh hs hE.1 A1 A2' A3' (fun y hy => (w3 _ hrm).1 y hy) hb (bd_of hbd) hT1 (fun μ' m' l' q' hK hW' => ?_)
        have hG := lu hK hW'
        have hJS' := JnS_st hs h hG
        obtain ⟨t1, t2, t3, t4, t5, t6⟩ := id hJS'.1
        refine ⟨fun f' hf' e => ?_, fun hno => ?_⟩
        · refine K39_158 t1 t2 (TQ_q t3) hs t5 ⟨⟨by have := w6.2.1; omega, by have := w6.2.1; omega⟩, fun z => absurd z (by omega), fun _ => hret μ' m' l' q' T S hG (fun β hβ he _ _ => ?_)⟩
          rw [agF hbd he]
          show ((rs.getD r ruD).1.1, (rs.getD r ruD).1.2.map (sbC (fulB b))) ∈ S
          rw [← e]
          exact gD_in hf'
        · have nf := fun (c : Nat) (j : Int) (a1 : s ≤ c) (a2 : c ≤ s + 19) => (hG.1.2.1 c j (jn_o (j := j) hSh hs (Or.inr (Or.inl ⟨a1, a2⟩))).2).1 (jn_o (j := j) hSh hs (Or.inr (Or.inl ⟨a1, a2⟩))).1
          refine K39_158 t1 t2 (TQ_q t3) hs t5 ⟨⟨by decide, by decide⟩, fun _ => ⟨⟨by omega, by omega⟩, ?_⟩, fun z => absurd rfl z⟩
          rw [hJS'.2.2.1.1]
          exact jn_258 hs hr hJ hlv1 hg hnw ey2 hJS' ((nf _ _ (by omega) (by omega)).trans ek) hF.2.2.2.2 (fun μ2 m2 l2 q2 T2 S2 g2 dn2 => hret μ2 m2 l2 q2 T2 S2 (JnG_t hSh hG g2 g2.2.2.2.2.2) dn2) (fun μ2 m2 l2 q2 T2 S2 t2 => hthr μ2 m2 l2 q2 T2 S2 (JnT_t hSh hG t2))
      · -- all is bound: is the atom a fact?
        rw [kbits] at hu
        have hu0 : u = 0 := by omega
        have hbd : ∀ p, p ∈ ((posR (rs.getD r ruD)).getD lv ([], [])).2 → ∀ c, c ∈ p → 5 ≤ c.1 → ¬ b (c.1 - 5) = none := fun p hp c hc h5 => u4.mp hu0 c (List.mem_flatten.mpr ⟨p, hp, hc⟩) h5 (ok_vb kok c (List.mem_flatten.mpr ⟨p, hp, hc⟩) h5)
        refine ⟨fun x' μ' => Wp (d + f + 2 + 3) 39 (96, [some (.ref 70), some (.int (zI (lv : Int))), some (.int (zI (kn : Int))), some (.int (zI y2)), none, none, none, none, none, none, none], [.int x'], μ') Q, noX, ?_, fun _ _ z => z, fun _ _ z => z.elim⟩
        refine k_lookUp (d := d + f + 1) (w := ((posR (rs.getD r ruD)).getD lv ([], [])).1) (ps := ((posR (rs.getD r ruD)).getD lv ([], [])).2) hSh hs hE.1 kn6 klow knd hWk hb (bd_of hbd) hT1 (fun μ' m' l' q' hK hW' => ?_)
        have hG := lu hK hW'
        have hJS' := JnS_st hs h hG
        obtain ⟨t1, t2, t3, t4, t5, t6⟩ := id hJS'.1
        have hS1000 := w6.2.1
        refine ⟨fun f' hf' e => ?_, fun hno => ?_⟩
        · have e' : S.getD f' ([], []) = sbA (fulB b) ((posR (rs.getD r ruD)).getD lv ([], [])) := e
          refine K39_96 t1 t2 (TQ_q t3) hs t5 ⟨⟨by omega, by omega⟩, fun z => absurd z (by omega), fun _ => ⟨⟨by omega, by omega⟩, fun hlt => ?_, fun hge => ?_⟩⟩
          · refine hret μ' m' l' q' T S hG (fun β hβ he hcm => ?_)
            obtain ⟨a, a1, a2, a3, a4⟩ := hcm lv (Nat.le_refl _) hlv1 hg
            have hal : (a : Int) ≤ y2 := by
              rw [ey2]
              by_cases y : gv ≤ (lv : Int)
              · rw [if_pos y]; exact a4
              · rw [if_neg y]; exact a3 (by omega)
            have hl := ExS_l hx
            have hnd : S.Nodup := by
              obtain ⟨⟨B', hB'⟩, hP⟩ := hE.2.1
              exact (hP B' hB').2.2.2
            have ea : a = f' := nodup_at hnd (by omega) hf' (by rw [ExS_g hx a1, a2, e', agF hbd he])
            omega
          · refine ⟨fun μ2 => Wp (d + f + 2 + 3) 39 (117, [some (.ref 70), some (.int (zI (lv : Int))), some (.int (zI (kn : Int))), some (.int (zI y2)), some (.int (zI (f' : Int))), none, none, none, none, none, none], [], μ2) Q, fun x μ' => Q (.inr x) μ', ?_, fun _ z => z, fun _ _ z => z⟩
            have hBL' : BLg (posR (rs.getD r ruD)) b gv (lv + 1) S := by
              refine ⟨fun i hi hl => ?_, hBL.2⟩
              by_cases y3 : i = lv
              · rw [y3]
                refine ⟨hbd, fun β hβ he => ?_⟩
                rw [agF hbd he, ← e']
                exact gD_in hf'
              · exact hBL.1 i hi (by omega)
            rw [show (lv : Int) + 1 = ((lv + 1 : Nat) : Int) by omega]
            refine hJ _ μ' m' l' q' T S b (JnS_i hJS' hBL') (fun μ2 m2 l2 q2 T2 S2 g2 dn2 => ?_) (fun μ2 m2 l2 q2 T2 S2 t2 => ?_)
            · show Wp (d + f + 2 + 3) 39 (117, _, [], _) Q
              obtain ⟨r1, r2, r3, r4, r5, r6⟩ := Gw_S hJS'.1 g2.1.1
              exact K39_117 r1 r2 (TQ_q r3) hs r5 (hret μ2 m2 l2 q2 T2 S2 (JnG_t hSh hG g2 g2.2.2.2.2.2) (fun β hβ he hcm => dn2 β hβ he (Cmj_s hcm)))
            · exact hthr μ2 m2 l2 q2 T2 S2 (JnT_t hSh hG t2)
        · refine K39_96 t1 t2 (TQ_q t3) hs t5 ⟨⟨by decide, by decide⟩, fun _ => hret μ' m' l' q' T S hG (fun β hβ he hcm => ?_), fun z => absurd rfl z⟩
          obtain ⟨a, a1, a2, a3, a4⟩ := hcm lv (Nat.le_refl _) hlv1 hg
          refine absurd ?_ hno
          show sbA (fulB b) ((posR (rs.getD r ruD)).getD lv ([], [])) ∈ S
          rw [← agF hbd he, ← a2]
          exact ExS_m hx (gD_in a1)
    · -- the given one
      have hge : (lv : Int) = gv := Classical.byContradiction hg
      refine ⟨fun μ' => Wp (d + f + 2 + 3) 39 (36, [some (.ref 70), some (.int (zI (lv : Int))), none, none, none, none, none, none, none, none, none], [], μ') Q, fun x μ' => Q (.inr x) μ', ?_, fun _ z => z, fun _ _ z => z⟩
      have hBL' : BLg (posR (rs.getD r ruD)) b gv (lv + 1) S := ⟨fun i hi hl => hBL.1 i hi (by omega), hBL.2⟩
      rw [show (lv : Int) + 1 = ((lv + 1 : Nat) : Int) by omega]
      refine hJ _ μ m l q T S b (JnS_i h hBL') (fun μ2 m2 l2 q2 T2 S2 g2 dn2 => ?_) (fun μ2 m2 l2 q2 T2 S2 t2 => ?_)
      · show Wp (d + f + 2 + 3) 39 (36, _, [], _) Q
        obtain ⟨r1, r2, r3, r4, r5, r6⟩ := Gw_S hSh g2.1.1
        exact K39_36 r1 r2 (TQ_q r3) hs r5 (hret μ2 m2 l2 q2 T2 S2 g2 (fun β hβ he hcm => dn2 β hβ he (Cmj_s hcm)))
      · exact hthr μ2 m2 l2 q2 T2 S2 t2
end CJ5
