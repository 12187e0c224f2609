/-! ===== the class's roles; install whole ===== -/
theorem nF_70_2 : ∀ j, j < 99 → ¬ ((cFl.getD j (0, 0, 0)).1 = 70 ∧ (cFl.getD j (0, 0, 0)).2.1 = 2) := by decide
theorem nF_84_0 : ∀ j, j < 99 → ¬ ((cFl.getD j (0, 0, 0)).1 = 84 ∧ (cFl.getD j (0, 0, 0)).2.1 = 0) := by decide
theorem wd_role : wdC.getD 0 [] = wdL.getD 2 [] := by decide +kernel
/-- the roles as the class has them -/
def RfC (X : Int → List Int → Prop) (q : Nat) (m : PM) (T : Nat) (L : List (List Cd)) : Prop := m 70 4 = (L.length : Int) ∧ L.length ≤ 4 ∧ ∀ k : Nat, k < L.length → ∃ u : Nat, u < T ∧ m 80 k = (u : Int) ∧ Cg X q m u (L.getD k [])
section CIR
variable {d : Nat} {μ : am_Mem} {l : PM} {Q : Option Value ⊕ Nat → am_Mem → Prop} {q N P S s : Nat}
theorem k_isRole {m : PM} {k : Nat} {x : Int} (H : CS μ) (e4 : m 70 4 = (k : Int)) (hk : k ≤ 4) (hR : ∀ j : Nat, j < k → iR (m 80 j)) (hx : iR x) : Wp d 35 (0, [some (.ref 70), some (.int (zI x)), none], [], sA μ m l) (pI (fun y μ' => y = zI (bP (∃ j : Nat, j < k ∧ m 80 j = x)) ∧ μ' = sA μ m l) noX) := by
  have loop : ∀ (f i : Nat), i + f = k → (∀ j : Nat, j < i → ¬ m 80 j = x) → Wp d 35 (2, [some (.ref 70), some (.int (zI x)), some (.int (zI (i : Int)))], [], sA μ m l) (pI (fun y μ' => y = zI (bP (∃ j : Nat, j < k ∧ m 80 j = x)) ∧ μ' = sA μ m l) noX) := by
    intro f
    induction f with
    | zero =>
      intro i hi hno
      refine K35_2 H ⟨⟨by omega, by omega⟩, by rw [e4]; exact ⟨by omega, by omega⟩, fun _ => ⟨?_, rfl⟩, fun z => by omega⟩
      rw [bP_0]
      rintro ⟨j, j1, j2⟩
      exact hno j (by omega) j2
    | succ f ih =>
      intro i hi hno
      refine K35_2 H ⟨⟨by omega, by omega⟩, by rw [e4]; exact ⟨by omega, by omega⟩, fun z => by omega, fun _ => ⟨⟨by omega, by omega⟩, hR i (by omega), hx, fun z => ?_, fun z => ⟨?_, rfl⟩⟩⟩
      · refine ih (i + 1) (by omega) (fun j hj => ?_)
        by_cases w : j = i
        · rw [w]; exact z
        · exact hno j (by omega)
      · rw [bP_1 ⟨i, by omega, Classical.byContradiction z⟩]
  exact K35_0 H (loop k 0 (by omega) (fun j hj => absurd hj (Nat.not_lt_zero j)))
/-- what finding the roles writes -/
abbrev WFo (c : Nat) (j : Int) : Prop := c = 80 ∨ (c = 70 ∧ j = 4)
theorem cf_7 {m0 : PM} {X : Int → List Int → Prop} {rs : List Rul} {T n : Nat} (H : CS μ) (TS_ : TS μ q N P S) (hq : TQ q N P S) (hs : s = 22 ∨ s = 42) (h2 : am_F μ 70 2 = s) (hv0 : KV X s m0 rs) (hc : (chF rs).1 = 0) (hT : CtT X q N S m0 T) (hG : GrI X q s m0 T n) (e6 : m0 s 6 = (n : Int))
    (hd : ∀ m' : PM, RfC X q m' T (rlS rs) → (∀ c j, ¬ WFo c j → m' c j = m0 c j) → Q (.inl none) (sA μ m' l)) : ∀ (f r : Nat) (m : PM) (o2 o3 : Option Value), r + f = rs.length → RfC X q m T (rlS (rs.take r)) → (∀ c j, ¬ WFo c j → m c j = m0 c j) → Wp (d + 2) 34 (7, [some (.ref 70), some (.int (zI (r : Int))), o2, o3], [], sA μ m l) Q := by
  have hck := chF_ok hc
  have hX := hv0.2.1
  have hTN := hT.1.2.1
  have tg : ∀ {m m' : PM}, (∀ c j, ¬ WFo c j → m' c j = m c j) → ∀ (u : Nat) (p : List Cd), Cg X q m u p → Cg X q m' u p := fun fr u p h => CgR_cg (T := u + 1) (fun t _ => ⟨fr _ _ (by omega), fr _ _ (by omega), fun k _ => fr _ _ (by omega)⟩) _ u p (by omega) h
  intro f
  induction f with
  | zero =>
    intro r m o2 o3 hr hI fr
    have hv : KV X s m rs := KV_cg (fun c j z => fr c j (by omega)) hv0
    have hn := KV_n hv
    refine K34_7 H TS_ hq hs h2 ⟨⟨by omega, by omega⟩, by rw [hn.1]; exact ⟨by omega, by omega⟩, fun _ => ?_, fun z => by rw [hn.1] at z; omega⟩
    rw [List.take_of_length_le (by omega)] at hI
    exact hd m hI fr
  | succ f ih =>
    intro r m o2 o3 hr hI fr
    have hv : KV X s m rs := KV_cg (fun c j z => fr c j (by omega)) hv0
    have hn := KV_n hv
    have hlt : r < rs.length := by omega
    obtain ⟨hA, hOk, hx, hx2, hk⟩ := KV_head hv hlt
    have e0 := KV_word hv hx (k := 0) (by decide)
    rw [wd_role] at e0
    have es := rlS_snoc (rs.take r) (rs.getD r ruD)
    rw [← take_r hlt] at es
    have stay : ∀ o2 o3 : Option Value, rlA (rlS (rs.take r)) (rs.getD r ruD) = rlS (rs.take r) → Wp (d + 2) 34 (7, [some (.ref 70), some (.int (zI ((r : Int) + 1))), o2, o3], [], sA μ m l) Q := fun o2 o3 e => ih (r + 1) m o2 o3 (by omega) (by rw [es, e]; exact hI) fr
    have hL4 := hI.2.1
    refine K34_7 H TS_ hq hs h2 ⟨⟨by omega, by omega⟩, by rw [hn.1]; exact ⟨by omega, by omega⟩, fun z => by rw [hn.1] at z; omega, fun _ => ⟨⟨by omega, by omega⟩, ⟨by omega, by omega⟩, ⟨by omega, by omega⟩, fun z => ?_, fun z => ⟨by rw [hI.1]; exact ⟨by omega, by omega⟩, fun z4 => ?_, fun z4 => ?_⟩⟩⟩
    · refine stay _ _ ?_
      unfold rlA
      exact if_neg (fun y => z (e0.mpr y.1))
    · refine stay _ _ ?_
      have e5 : (rlS (rs.take r)).length = 4 := by rw [hI.1] at z4; omega
      unfold rlA
      exact if_neg (fun y => y.2.1 e5)
    · have ew : (rs.getD r ruD).1.1 = wdL.getD 2 [] := e0.mp (Classical.byContradiction z)
      have h4 : ¬ (rlS (rs.take r)).length = 4 := fun y => z4 (by rw [hI.1, y]; decide)
      obtain ⟨o1, _, o3'⟩ := role_ok (hck.1 r hlt).1 (hck.1 r hlt).2.1 ew
      generalize hL : rlS (rs.take r) = L at *
      obtain ⟨_, _, _, _, hkid⟩ := ac_nodes hA
      have hkid := hkid 0 (by rw [o1]; decide)
      generalize hcs : (rs.getD r ruD).1.2.getD 0 [] = cs at *
      obtain ⟨x, x1, x2, x3, x4⟩ := hkid
      have x5 := TcR_ln x4
      rw [show 4 * m (s + 11) (r : Int) + ((0 : Nat) : Int) = 4 * m (s + 11) (r : Int) by omega] at x1
      have hg : gnd cs := o3' cs ((mem_gD (rs.getD r ruD).1.2 [] cs).mpr ⟨0, by rw [o1]; decide, hcs⟩)
      have hk6 := hA.1
      have e6m : m s 6 = (n : Int) := by rw [fr _ _ (by omega)]; exact e6
      obtain ⟨u, u1, u2, u3⟩ := hG x.toNat (by omega) cs (TcR_cg (fun _ _ y => y) 11 _ cs (fun i _ _ => ⟨(fr _ _ (by omega)).symm, (fr _ _ (by omega)).symm, (fr _ _ (by omega)).symm, (fr _ _ (by omega)).symm⟩) (fun i _ _ => (fr _ _ (by omega)).symm) (by rw [show ((x.toNat : Nat) : Int) = x by omega]; exact x4)) hg
      rw [show ((x.toNat : Nat) : Int) = x by omega] at u1
      have u1m : m 81 x = (u : Int) := by rw [fr _ _ (by omega)]; exact u1
      have u3m := tg fr u cs u3
      have isIn : (∃ j : Nat, j < L.length ∧ m 80 j = (u : Int)) ↔ cs ∈ L := by
        constructor
        · rintro ⟨j, j1, j2⟩
          obtain ⟨u', v1, v2, v3⟩ := hI.2.2 j j1
          have eu : u' = u := by omega
          rw [eu] at v3
          rw [CgR_fun hX _ _ _ _ _ u3m v3]
          rw [List.getD_eq_getElem?_getD, List.getElem?_eq_getElem j1]
          exact List.getElem_mem j1
        · intro hm
          obtain ⟨j, j1, j2⟩ := mem_gD2 hm
          obtain ⟨u', v1, v2, v3⟩ := hI.2.2 j j1
          rw [j2] at v3
          have hTm : CtT X q N S m T := CtT_fr (fun c j y => fr c j (by omega)) hT
          exact ⟨j, j1, by rw [v2, Cg_in hX hTm.2.1 v1 u2 v3 u3m]⟩
      have hxx : rlA L (rs.getD r ruD) = if cs ∈ L then L else L ++ [cs] := by
        unfold rlA
        rw [hcs]
        by_cases y : cs ∈ L
        · rw [if_pos y]
          exact if_neg (fun w => w.2.2 y)
        · rw [if_neg y]
          exact if_pos ⟨ew, h4, y⟩
      refine ⟨⟨by omega, by omega⟩, by rw [x1]; exact ⟨by omega, by omega⟩, fun y μ' => y = zI (bP (∃ j : Nat, j < L.length ∧ m 80 j = (u : Int))) ∧ μ' = sA μ m l, noX, ?_, ?_, fun _ _ y => y.elim⟩
      · rw [x1, u1m]
        exact k_isRole (k := L.length) H hI.1 hL4 (fun j hj => by obtain ⟨u', v1, v2, _⟩ := hI.2.2 j hj; rw [v2]; exact ⟨by omega, by omega⟩) ⟨by omega, by omega⟩
      · rintro y μ' ⟨rfl, rfl⟩
        rw [x1, u1m]
        refine K34_70 H TS_ hq hs h2 ⟨bP_R _, fun w => ?_, fun w => ⟨by rw [hI.1]; exact ⟨by omega, by omega⟩, ?_⟩⟩
        · have hin : cs ∈ L := isIn.mp (Classical.byContradiction fun y => w (bP_0 y))
          rw [if_pos hin] at hxx
          exact stay _ _ hxx
        · have hout : ¬ cs ∈ L := fun y => w (by rw [bP_1 (isIn.mpr y)]; decide)
          rw [if_neg hout] at hxx
          rw [hI.1]
          rintro m1 e1
          have f1 : ∀ c j, ¬ ((c = 80 ∧ j = (L.length : Int)) ∨ (c = 70 ∧ j = 4)) → m1 c j = m c j := fun c j y => by rw [e1, up_o (by omega), up_o (by omega)]
          refine ih (r + 1) m1 _ _ (by omega) ?_ (fun c j y => by rw [f1 c j (by omega)]; exact fr c j y)
          rw [es, hxx]
          refine ⟨by rw [e1, up_s, List.length_append, List.length_singleton]; omega, by rw [List.length_append, List.length_singleton]; omega, fun k hk => ?_⟩
          rw [List.length_append, List.length_singleton] at hk
          have tg1 := tg (m := m) (m' := m1) (fun c j y => f1 c j (by omega))
          rw [gD_snoc]
          by_cases ek : k = L.length
          · rw [if_pos ek, ek]
            exact ⟨u, u2, by rw [e1, up_c (by decide), up_s], tg1 u cs u3m⟩
          · rw [if_neg ek]
            obtain ⟨u', v1, v2, v3⟩ := hI.2.2 k (by omega)
            exact ⟨u', v1, by rw [f1 _ _ (by omega)]; exact v2, tg1 u' _ v3⟩
/-- what install writes -/
abbrev WIs (q : Nat) (c : Nat) (j : Int) : Prop := WIn q c j ∨ WFc c j ∨ c = 80 ∨ (c = 70 ∧ (j = 4 ∨ j = 12 ∨ j = 15))
theorem k_install {m : PM} {rs : List Rul} {W : Int → Nat} {F0 T0 : Nat} (H : CS μ) (TS_ : TS μ q N P S) (hq : TQ q N P S) (hs : s = 22 ∨ s = 42) (hT0 : CtI q N S m T0) (hF0 : FtI W m F0) (hC : ClS s rs m) (hc : (chF rs).1 = 0)
    (hk : ∀ (c T : Nat) (m' : PM), NmC m' (s + 1) c → KV (cX m' (s + 1) c) s m' rs → CtT (cX m' (s + 1) c) q N S m' T → T ≤ 1000 → m' 70 15 = (T : Int) → m' 70 12 = 0 → GrI (cX m' (s + 1) c) q s m' T (m' s 6).toNat → FtI W m' 0 → RfC (cX m' (s + 1) c) q m' T (rlS rs) → (∀ c j, ¬ WIs q c j → m' c j = m c j) → Q (.inl none) (sA (am_pR (am_pR μ 70 2 s) 84 0 (s + 1)) m' l)) :
    Wp (d + 3) 33 (0, [some (.ref 70), some (.ref s), none, none], [], sA μ m l) Q := by
  have H1 : CS (am_pR μ 70 2 s) := CS_pR nF_70_2 H
  have H2 : CS (am_pR (am_pR μ 70 2 s) 84 0 (s + 1)) := CS_pR nF_84_0 H1
  have T1 : TS (am_pR μ 70 2 s) q N P S := TS_
  have T2 : TS (am_pR (am_pR μ 70 2 s) 84 0 (s + 1)) q N P S := TS_
  have h21 : am_F (am_pR μ 70 2 s) 70 2 = s := by
    show (if (70 : Nat) = 70 ∧ (2 : Nat) = 2 then s else am_F μ 70 2) = s
    exact if_pos ⟨rfl, rfl⟩
  have h22 : am_F (am_pR (am_pR μ 70 2 s) 84 0 (s + 1)) 70 2 = s := h21
  have h02 : am_F (am_pR (am_pR μ 70 2 s) 84 0 (s + 1)) 84 0 = s + 1 := by
    show (if (84 : Nat) = 84 ∧ (0 : Nat) = 0 then s + 1 else am_F (am_pR μ 70 2 s) 84 0) = s + 1
    exact if_pos ⟨rfl, rfl⟩
  have e71 : am_F (am_pR (sA μ m l) 70 2 s) 70 1 = 71 := (show am_F μ 70 1 = 71 from cF_70_1 H)
  obtain ⟨c, _, _, _, _, hN, hv, _, _, _, _, hcv, _⟩ := hC
  have hn := KV_n hv
  refine b33_0 (d := d + 2) (P := fun μ' => ∃ m', μ' = sA (am_pR μ 70 2 s) m' l ∧ FtI W m' 0 ∧ ∀ c j, ¬ WFc c j → m' c j = m c j) (X := noX) (show am_kd μ 70 = (1, 2) from cK_70 H) (by omega) (show am_kd μ 70 = (1, 2) from cK_70 H) (by rw [e71]; decide) (by rw [e71]; exact (show am_kd μ 71 = (1, 1) from cK_71 H)) (by rw [e71, pR_sA]; exact k_fcut (M := 0) H1 hF0 (Nat.zero_le _)) (fun μ' hp => ?_) (fun _ _ z => z.elim)
  obtain ⟨m1, rfl, hF1, f1⟩ := hp
  have hT1 : CtI q N S m1 T0 := by
    have e0 : m1 q = m q := funext fun j => f1 _ _ (by omega)
    have e1 : m1 (q + 1) = m (q + 1) := funext fun j => f1 _ _ (by omega)
    have e2 : m1 (q + 2) = m (q + 2) := funext fun j => f1 _ _ (by omega)
    have e4 : m1 (q + 4) = m (q + 4) := funext fun j => f1 _ _ (by omega)
    have e5 : m1 (q + 5) = m (q + 5) := funext fun j => f1 _ _ (by omega)
    have e7 : m1 (q + 7) = m (q + 7) := funext fun j => f1 _ _ (by omega)
    have e9 : m1 84 9 = m 84 9 := f1 _ _ (by omega)
    unfold CtI
    rw [e0, e1, e2, e4, e5, e7, e9]
    exact hT0
  refine K33_13 H1 T1 hq hs h21 ⟨fun μ' => ∃ m', μ' = sA (am_pR (am_pR μ 70 2 s) 84 0 (s + 1)) m' l ∧ CtI q N S m' 0 ∧ ∀ c j, ¬ (c = q + 7 ∨ (c = 84 ∧ j = 9)) → m' c j = m1 c j, noX, ?_, fun μ' hp => ?_, fun _ _ z => z.elim⟩
  · refine b89_0 (d := d + 1) (P := fun μ' => ∃ m', μ' = sA (am_pR (am_pR μ 70 2 s) 84 0 (s + 1)) m' l ∧ CtI q N S m' 0 ∧ ∀ c j, ¬ (c = q + 7 ∨ (c = 84 ∧ j = 9)) → m' c j = m1 c j) (X := noX) (show am_kd μ 84 = (1, 8) from cK_84 H) (by omega) (show am_kd μ 84 = (1, 8) from cK_84 H) (by rw [pR_sA]; exact k_tcut (M := 0) H2 T2 hq hT1 (Nat.zero_le _)) (fun μ' hp => b89_10 hp) (fun _ _ z => z.elim)
  obtain ⟨m2, rfl, hT2, f2⟩ := hp
  refine K33_27 H2 T2 hq hs h22 ?_
  have fs : ∀ c j, s ≤ c → c ≤ s + 19 → m2 c j = m c j := fun c j y1 y2 => by rw [f2 c j (by omega), f1 c j (by omega)]
  obtain ⟨n1, n2⟩ := NmC_cg (m' := m2) (fs _ _ (by omega) (by omega)) (funext fun x => fs _ _ (by omega) (by omega)) (funext fun x => fs _ _ (by omega) (by omega)) (funext fun x => fs _ _ (by omega) (by omega)) hN
  have hv2 : KV (cX m2 (s + 1) c) s m2 rs := by
    rw [n2]
    exact KV_cg (fun c j z => fs c j (by omega) (by omega)) hv
  have e6 : m2 s 6 = (((m s 6).toNat : Nat) : Int) := by rw [fs _ _ (by omega) (by omega)]; omega
  have hcv2 : CovC (cX m2 (s + 1) c) s m2 0 (((m s 6).toNat : Nat) : Int) := by
    rw [n2, show (((m s 6).toNat : Nat) : Int) = m s 6 by omega]
    exact CovC_cg (N := m s 6) (Int.le_refl _) (fun i _ => ⟨fs _ _ (by omega) (by omega), fs _ _ (by omega) (by omega), fs _ _ (by omega) (by omega), fs _ _ (by omega) (by omega)⟩) (fun i _ => fs _ _ (by omega) (by omega)) hcv
  have hT20 : CtT (cX m2 (s + 1) c) q N S m2 0 := ⟨hT2, fun t t' x ps ht => absurd ht (Nat.not_lt_zero t), fun t ht => absurd ht (Nat.not_lt_zero t)⟩
  refine in_29 (d := d) (m0 := m2) (c := c) (n := (m s 6).toNat) H2 T2 hq hs h22 h02 n1 (by omega) e6 hcv2 (fun m3 T o3 y1 y2 y3 y4 => ?_) (m s 6).toNat 0 0 m2 none (by omega) hT20 (Nat.le_refl _) (fun k hk => absurd hk (Nat.not_lt_zero k)) (fun _ _ _ => rfl)
  have e63 : m3 s 6 = (((m s 6).toNat : Nat) : Int) := by rw [y4 _ _ (by omega)]; exact e6
  refine K33_29 H2 T2 hq hs h22 ⟨⟨by omega, by omega⟩, by rw [e63]; exact ⟨by omega, by omega⟩, fun _ => ?_, fun z => by omega⟩
  rw [y1.1.1]
  rintro m4 e4
  have f4 : ∀ c j, ¬ (c = 70 ∧ (j = 12 ∨ j = 15)) → m4 c j = m3 c j := fun c j z => by rw [e4, up_o (by omega), up_o (by omega)]
  refine ⟨fun μ' => ∃ m', μ' = sA (am_pR (am_pR μ 70 2 s) 84 0 (s + 1)) m' l ∧ RfC (cX m2 (s + 1) c) q m' T (rlS rs) ∧ ∀ c j, ¬ WFo c j → m' c j = m4 c j, noX, ?_, fun μ' hp => ?_, fun _ _ z => z.elim⟩
  · refine K34_0 H2 T2 hq hs h22 ?_
    rintro m5 e5
    have f5 : ∀ c j, ¬ (c = 70 ∧ j = 4) → m5 c j = m4 c j := fun c j z => by rw [e5]; exact up_o z
    have f53 : ∀ c j, ¬ (c = 70) → m5 c j = m3 c j := fun c j z => by rw [f5 c j (by omega), f4 c j (by omega)]
    refine cf_7 (d := d) (m0 := m5) (n := (m s 6).toNat) H2 T2 hq hs h22 (KV_cg (m := m2) (fun c j z => by rw [f53 c j (by omega), y4 c j (by omega)]) hv2) hc (CtT_fr (fun c j z => f53 c j (by omega)) y1) (fun k hk cs hcs hg => ?_) (by rw [f53 _ _ (by omega)]; exact e63) (fun m' w1 w2 => ⟨m', rfl, w1, fun c j z => by rw [w2 c j z, f5 c j (by omega)]⟩) rs.length 0 m5 none none (by omega) ⟨by rw [e5, up_s]; rfl, Nat.zero_le _, fun k hk => absurd hk (Nat.not_lt_zero k)⟩ (fun _ _ _ => rfl)
    obtain ⟨u, u1, u2, u3⟩ := y3 k hk cs (TcR_cg (fun _ _ y => y) 11 _ cs (fun i _ _ => ⟨(f53 _ _ (by omega)).symm, (f53 _ _ (by omega)).symm, (f53 _ _ (by omega)).symm, (f53 _ _ (by omega)).symm⟩) (fun i _ _ => (f53 _ _ (by omega)).symm) hcs) hg
    exact ⟨u, by rw [f53 _ _ (by omega)]; exact u1, u2, CgR_cg (T := T) (fun t _ => ⟨f53 _ _ (by omega), f53 _ _ (by omega), fun k _ => f53 _ _ (by omega)⟩) _ u _ u2 u3⟩
  obtain ⟨m6, rfl, w1, w2⟩ := hp
  refine K33_157 H2 T2 hq hs h22 ?_
  have f6 : ∀ c j, ¬ (WFo c j ∨ (c = 70 ∧ (j = 12 ∨ j = 15))) → m6 c j = m3 c j := fun c j z => by rw [w2 c j (by omega), f4 c j (by omega)]
  have f62 : ∀ c j, ¬ (WFo c j ∨ (c = 70 ∧ (j = 12 ∨ j = 15)) ∨ WIn q c j) → m6 c j = m2 c j := fun c j z => by rw [f6 c j (by omega)]; exact y4 c j (by omega)
  obtain ⟨n3, n4⟩ := NmC_cg (m' := m6) (f62 _ _ (by omega)) (funext fun x => f62 _ _ (by omega)) (funext fun x => f62 _ _ (by omega)) (funext fun x => f62 _ _ (by omega)) n1
  refine hk c T m6 n3 (by rw [n4]; exact KV_cg (fun c j z => f62 c j (by omega)) hv2) (by rw [n4]; exact CtT_fr (fun c j z => f6 c j (by omega)) y1) (by omega) ?_ ?_ ?_ ?_ (by rw [n4]; exact w1) (fun c j z => ?_)
  · rw [w2 _ _ (by omega), e4, up_s]
  · rw [w2 _ _ (by omega), e4, up_i (by decide), up_s]
  · rw [n4, f62 s 6 (by omega), fs _ _ (by omega) (by omega)]
    intro k hk cs hcs hg
    obtain ⟨u, u1, u2, u3⟩ := y3 k hk cs (TcR_cg (fun _ _ y => y) 11 _ cs (fun i _ _ => ⟨(f6 _ _ (by omega)).symm, (f6 _ _ (by omega)).symm, (f6 _ _ (by omega)).symm, (f6 _ _ (by omega)).symm⟩) (fun i _ _ => (f6 _ _ (by omega)).symm) hcs) hg
    exact ⟨u, by rw [f6 _ _ (by omega)]; exact u1, u2, CgR_cg (T := T) (fun t _ => ⟨f6 _ _ (by omega), f6 _ _ (by omega), fun k _ => f6 _ _ (by omega)⟩) _ u _ u2 u3⟩
  · have g : ∀ c j, (71 ≤ c ∧ c ≤ 78) → m6 c j = m1 c j := fun c j z => by rw [f62 c j (by omega), f2 c j (by omega)]
    have g72 : m6 72 = m1 72 := funext fun j => g _ _ (by omega)
    have g76 : m6 76 = m1 76 := funext fun j => g _ _ (by omega)
    have g77 : m6 77 = m1 77 := funext fun j => g _ _ (by omega)
    have g78 : m6 78 = m1 78 := funext fun j => g _ _ (by omega)
    have g73 : m6 73 = m1 73 := funext fun j => g _ _ (by omega)
    have g74 : m6 74 = m1 74 := funext fun j => g _ _ (by omega)
    have g75 : m6 75 = m1 75 := funext fun j => g _ _ (by omega)
    have g71 : m6 71 7 = m1 71 7 := g _ _ (by omega)
    unfold FtI
    rw [g72, g76, g77, g78, g73, g74, g75, g71]
    exact hF1
  · rw [f62 c j (by omega), f2 c j (by omega), f1 c j (by omega)]
end CIR
