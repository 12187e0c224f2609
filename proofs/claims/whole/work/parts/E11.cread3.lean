/-! ===== the class's read, whole ===== -/
theorem nF_16_4 : ∀ j, j < 99 → ¬ ((cFl.getD j (0, 0, 0)).1 = 16 ∧ (cFl.getD j (0, 0, 0)).2.1 = 4) := by decide
theorem nF_16_5 : ∀ j, j < 99 → ¬ ((cFl.getD j (0, 0, 0)).1 = 16 ∧ (cFl.getD j (0, 0, 0)).2.1 = 5) := by decide
/-- references that a read may change -/
abbrev RfW (c f : Nat) : Prop := ((c = 62 ∨ c = 65) ∧ f = 1) ∨ (c = 16 ∧ (f = 4 ∨ f = 5)) ∨ (c = 70 ∧ f = 2) ∨ (c = 84 ∧ f = 0)
/-- the same cells, other references -/
def SmR (μ μ' : am_Mem) : Prop := am_n μ' = am_n μ ∧ am_sl μ' = am_sl μ ∧ am_kd μ' = am_kd μ ∧ ∀ c f, ¬ RfW c f → am_F μ' c f = am_F μ c f
theorem SmR_S {μ μ' : am_Mem} (h : SmS μ μ') : SmR μ μ' := ⟨h.1, h.2.1, h.2.2.1, fun c f z => h.2.2.2 c f (fun y => z (Or.inl y))⟩
theorem SmR_pR {μ μ' : am_Mem} {c f r : Nat} (hc : RfW c f) (h : SmR μ μ') : SmR μ (am_pR μ' c f r) := by
  refine ⟨h.1, h.2.1, h.2.2.1, fun c' f' hn => ?_⟩
  show (if c' = c ∧ f' = f then r else am_F μ' c' f') = _
  rw [if_neg (by rintro ⟨rfl, rfl⟩; exact hn hc)]
  exact h.2.2.2 c' f' hn
theorem TS_R {μ μ' : am_Mem} {q N P S : Nat} (h : SmR μ μ') (T : TS μ q N P S) : TS μ' q N P S := by
  obtain ⟨_, _, k, f⟩ := h
  obtain ⟨⟨a1, a2, a3, a4, a5, a6, a7, a8⟩, b⟩ := T
  refine ⟨⟨by rw [f _ _ (by omega)]; exact a1, by rw [f _ _ (by omega)]; exact a2, by rw [f _ _ (by omega)]; exact a3, by rw [f _ _ (by omega)]; exact a4, by rw [f _ _ (by omega)]; exact a5, by rw [f _ _ (by omega)]; exact a6, by rw [f _ _ (by omega)]; exact a7, by rw [f _ _ (by omega)]; exact a8⟩, ?_⟩
  rw [k]
  exact b
/-- what a read without fault writes -/
abbrev WRg (q s c : Nat) (j : Int) : Prop := WRd s c j ∨ WIs q c j ∨ (c = 16 ∧ (j = 6 ∨ j = 12 ∨ j = 14 ∨ j = 17))
/-- the class's model of a sheet as it is installed: T terms -/
def MdC (q N S s : Nat) (rs : List Rul) (m : PM) (T : Nat) : Prop := ∃ c : Nat, NmC m (s + 1) c ∧ KV (cX m (s + 1) c) s m rs ∧ CtT (cX m (s + 1) c) q N S m T ∧ GrI (cX m (s + 1) c) q s m T (m s 6).toNat ∧ RfC (cX m (s + 1) c) q m T (rlS rs)
section CRW
variable {d : Nat} {μ : am_Mem} {l : PM} {Q : Option Value ⊕ Nat → am_Mem → Prop} {q N P S s s0 : Nat}
theorem k_read {m : PM} {W : Int → Nat} {F0 T0 : Nat} (H : CS μ) (TS_ : TS μ q N P S) (hq : TQ q N P S) (hs : s = 22 ∨ s = 42) (hs0 : s0 = 22 ∨ s0 = 42) (h5 : am_F μ 16 5 = s) (h4 : am_F μ 16 4 = s0) (hT0 : CtI q N S m T0) (hF0 : FtI W m F0) (hM : CNm m (s + 1)) (hn : 0 ≤ m 16 1 ∧ m 16 1 ≤ 2000) (hr : ∀ j, 0 ≤ m 17 j ∧ m 17 j ≤ 127) (hk1 : am_kd μ 1 = (8, 8)) (h1 : ∀ j : Nat, j < 8 → m 1 (j : Int) = fixV.getD j 0)
    (hb : ∀ (μ' : am_Mem) (m' l' : PM), SmS μ μ' → CS μ' → (∀ c j, ¬ WRd s c j → m' c j = m c j) → (∀ c j, ¬ c = 68 → l' c j = l c j) → CNm m' (s + 1) → m' 16 2 = (vd (m 17) (m 16 1)).2 → ¬ (vd (m 17) (m 16 1)).1 = 0 → Q (.inl (some (.int (zI (vd (m 17) (m 16 1)).1)))) (sA μ' m' l'))
    (hg : ∀ (rs : List Rul) (μ' : am_Mem) (m' l' : PM) (T : Nat), pSh (m 17) (m 16 1) 60 0 [] = .inr rs → (chF rs).1 = 0 → SmR μ μ' → CS μ' → am_F μ' 16 4 = s → am_F μ' 16 5 = s0 → am_F μ' 70 2 = s → am_F μ' 84 0 = s + 1 → (∀ c j, ¬ WRg q s c j → m' c j = m c j) → (∀ c j, ¬ c = 68 → l' c j = l c j) → CNm m' (s + 1) → m' 16 2 = (chF rs).2 → m' 16 6 = 1 → m' 16 12 = -1 → m' 16 14 = 0 → m' 16 17 = 0 → ClS s rs m' → MdC q N S s rs m' T → T ≤ 1000 → m' 70 15 = (T : Int) → m' 70 12 = 0 → FtI W m' 0 → Q (.inl (some (.int (zI 0)))) (sA μ' m' l')) :
    Wp (d + 28) 119 (0, [some (.ref 16), none, none], [], sA μ m l) Q := by
  refine k_read1 H hs h5 hM hn hr hk1 h1 hb (fun rs μ1 m1 l1 hP hc S1 H1 f1 fl hC1 e2 hCl => ?_)
  have R1 := SmR_S S1
  have e5 : am_F (sA μ1 m1 l1) 16 5 = s := (S1.2.2.2 16 5 (by omega)).trans h5
  have e4 : am_F (sA μ1 m1 l1) 16 4 = s0 := (S1.2.2.2 16 4 (by omega)).trans h4
  have kd : am_kd μ1 16 = (1, 11) := cK_16 H1
  refine b119_79 (show am_kd μ1 16 = (1, 11) from kd) (by rw [e4]; omega) (show am_kd μ1 16 = (1, 11) from kd) (by rw [e5]; omega) (show am_kd μ1 16 = (1, 11) from kd) (by rw [e5]; omega) (show am_kd μ1 16 = (1, 11) from kd) (by rw [e4]; omega) (show am_kd μ1 16 = (1, 11) from kd) ?_
  rw [e4, e5, pR_sA, pR_sA]
  have ew : am_pA (sA (am_pR (am_pR μ1 16 4 s) 16 5 s0) m1 l1) 16 6 (Int32.ofInt 1) = sA (am_pR (am_pR μ1 16 4 s) 16 5 s0) (up m1 16 6 1) l1 := wfE (mr _ m1 l1) (rfl : 16 = 16) (rfl : ((6 : Nat) : Int) = 6) (zr 1)
  rw [ew]
  generalize em2 : up m1 16 6 1 = m2
  have f2 : ∀ c j, ¬ (c = 16 ∧ j = 6) → m2 c j = m1 c j := fun c j z => by rw [← em2]; exact up_o z
  have H2 : CS (am_pR (am_pR μ1 16 4 s) 16 5 s0) := CS_pR nF_16_5 (CS_pR nF_16_4 H1)
  have R2 : SmR μ (am_pR (am_pR μ1 16 4 s) 16 5 s0) := SmR_pR (by omega) (SmR_pR (by omega) R1)
  have T2 := TS_R R2 TS_
  have g4 : am_F (am_pR (am_pR μ1 16 4 s) 16 5 s0) 16 4 = s := by
    show (if (16 : Nat) = 16 ∧ (4 : Nat) = 4 then s else am_F μ1 16 4) = s
    exact if_pos ⟨rfl, rfl⟩
  have g5 : am_F (am_pR (am_pR μ1 16 4 s) 16 5 s0) 16 5 = s0 := by
    show (if (16 : Nat) = 16 ∧ (5 : Nat) = 5 then s0 else am_F (am_pR μ1 16 4 s) 16 5) = s0
    exact if_pos ⟨rfl, rfl⟩
  generalize eμ : am_pR (am_pR μ1 16 4 s) 16 5 s0 = μ2 at *
  have g9 : am_F (sA μ2 m2 l1) 16 9 = 70 := (show am_F μ2 16 9 = 70 from cF_16_9 H2)
  have g4' : am_F (sA μ2 m2 l1) 16 4 = s := g4
  have hCl2 : ClS s rs m2 := ClS_cg (fun c j _ _ => f2 c j (by omega)) hCl
  have fm : ∀ c j, ¬ (WRd s c j ∨ (c = 16 ∧ j = 6)) → m2 c j = m c j := fun c j z => by rw [f2 c j (by omega)]; exact f1 c j (by omega)
  have hT2 : CtI q N S m2 T0 := by
    have e0 : m2 q = m q := funext fun j => fm _ _ (by omega)
    have e1 : m2 (q + 1) = m (q + 1) := funext fun j => fm _ _ (by omega)
    have e2 : m2 (q + 2) = m (q + 2) := funext fun j => fm _ _ (by omega)
    have e4 : m2 (q + 4) = m (q + 4) := funext fun j => fm _ _ (by omega)
    have e5 : m2 (q + 5) = m (q + 5) := funext fun j => fm _ _ (by omega)
    have e7 : m2 (q + 7) = m (q + 7) := funext fun j => fm _ _ (by omega)
    have e9 : m2 84 9 = m 84 9 := fm _ _ (by omega)
    unfold CtI
    rw [e0, e1, e2, e4, e5, e7, e9]
    exact hT0
  have hF2 : FtI W m2 F0 := by
    have g72 : m2 72 = m 72 := funext fun j => fm _ _ (by omega)
    have g76 : m2 76 = m 76 := funext fun j => fm _ _ (by omega)
    have g77 : m2 77 = m 77 := funext fun j => fm _ _ (by omega)
    have g78 : m2 78 = m 78 := funext fun j => fm _ _ (by omega)
    have g73 : m2 73 = m 73 := funext fun j => fm _ _ (by omega)
    have g74 : m2 74 = m 74 := funext fun j => fm _ _ (by omega)
    have g75 : m2 75 = m 75 := funext fun j => fm _ _ (by omega)
    have g71 : m2 71 7 = m 71 7 := fm _ _ (by omega)
    unfold FtI
    rw [g72, g76, g77, g78, g73, g74, g75, g71]
    exact hF0
  refine b119_102 (d := d + 27) (P := fun μ' => ∃ (c T : Nat) (m3 : PM), μ' = sA (am_pR (am_pR μ2 70 2 s) 84 0 (s + 1)) m3 l1 ∧ NmC m3 (s + 1) c ∧ KV (cX m3 (s + 1) c) s m3 rs ∧ CtT (cX m3 (s + 1) c) q N S m3 T ∧ T ≤ 1000 ∧ m3 70 15 = (T : Int) ∧ m3 70 12 = 0 ∧ GrI (cX m3 (s + 1) c) q s m3 T (m3 s 6).toNat ∧ FtI W m3 0 ∧ RfC (cX m3 (s + 1) c) q m3 T (rlS rs) ∧ (∀ c j, ¬ WIs q c j → m3 c j = m2 c j)) (X := noX) (show am_kd μ2 16 = (1, 11) from cK_16 H2) (by rw [g9]; decide) (show am_kd μ2 16 = (1, 11) from cK_16 H2) (by rw [g4']; omega) (by rw [g9]; exact (show am_kd μ2 70 = (1, 2) from cK_70 H2)) ?_ (fun μ' hp => ?_) (fun _ _ z => z.elim)
  · rw [g9, g4']
    exact k_install (d := d + 24) H2 T2 hq hs hT2 hF2 hCl2 hc (fun c T m3 y1 y2 y3 y4 y5 y6 y7 y8 y9 y10 => ⟨c, T, m3, rfl, y1, y2, y3, y4, y5, y6, y7, y8, y9, y10⟩)
  obtain ⟨c, T, m3, rfl, y1, y2, y3, y4, y5, y6, y7, y8, y9, y10⟩ := hp
  have H3 : CS (am_pR (am_pR μ2 70 2 s) 84 0 (s + 1)) := CS_pR nF_84_0 (CS_pR nF_70_2 H2)
  have R3 : SmR μ (am_pR (am_pR μ2 70 2 s) 84 0 (s + 1)) := SmR_pR (by omega) (SmR_pR (by omega) R2)
  have k4 : am_F (am_pR (am_pR μ2 70 2 s) 84 0 (s + 1)) 16 4 = s := g4
  have k5 : am_F (am_pR (am_pR μ2 70 2 s) 84 0 (s + 1)) 16 5 = s0 := g5
  have k70 : am_F (am_pR (am_pR μ2 70 2 s) 84 0 (s + 1)) 70 2 = s := by
    show (if (70 : Nat) = 70 ∧ (2 : Nat) = 2 then s else am_F μ2 70 2) = s
    exact if_pos ⟨rfl, rfl⟩
  have k84 : am_F (am_pR (am_pR μ2 70 2 s) 84 0 (s + 1)) 84 0 = s + 1 := by
    show (if (84 : Nat) = 84 ∧ (0 : Nat) = 0 then s + 1 else am_F (am_pR μ2 70 2 s) 84 0) = s + 1
    exact if_pos ⟨rfl, rfl⟩
  generalize eμ3 : am_pR (am_pR μ2 70 2 s) 84 0 (s + 1) = μ3 at *
  refine b119_113 (show am_kd μ3 16 = (1, 11) from cK_16 H3) (show am_kd μ3 16 = (1, 11) from cK_16 H3) (show am_kd μ3 16 = (1, 11) from cK_16 H3) ?_
  have ew3 : am_pA (am_pA (am_pA (sA μ3 m3 l1) 16 12 (Int32.ofInt (-1))) 16 14 (Int32.ofInt 0)) 16 17 (Int32.ofInt 0) = sA μ3 (up (up (up m3 16 12 (-1)) 16 14 0) 16 17 0) l1 := wfE (wfE (wfE (mr _ m3 l1) (rfl : 16 = 16) (rfl : ((12 : Nat) : Int) = 12) (zr (-1))) (rfl : 16 = 16) (rfl : ((14 : Nat) : Int) = 14) (zr 0)) (rfl : 16 = 16) (rfl : ((17 : Nat) : Int) = 17) (zr 0)
  rw [ew3]
  refine b119_128 ?_
  generalize em4 : up (up (up m3 16 12 (-1)) 16 14 0) 16 17 0 = m4
  have f4 : ∀ c j, ¬ (c = 16 ∧ (j = 12 ∨ j = 14 ∨ j = 17)) → m4 c j = m3 c j := fun c j z => by rw [← em4, up_o (by omega), up_o (by omega), up_o (by omega)]
  have f41 : ∀ c j, ¬ (WIs q c j ∨ (c = 16 ∧ (j = 6 ∨ j = 12 ∨ j = 14 ∨ j = 17))) → m4 c j = m1 c j := fun c j z => by rw [f4 c j (by omega), y10 c j (by omega), f2 c j (by omega)]
  obtain ⟨n1, n2⟩ := NmC_cg (m' := m4) (f4 _ _ (by omega)) (funext fun x => f4 _ _ (by omega)) (funext fun x => f4 _ _ (by omega)) (funext fun x => f4 _ _ (by omega)) y1
  have tg : ∀ (u : Nat) (p : List Cd), Cg (cX m3 (s + 1) c) q m3 u p → Cg (cX m3 (s + 1) c) q m4 u p := fun u p h => CgR_cg (T := u + 1) (fun t _ => ⟨f4 _ _ (by omega), f4 _ _ (by omega), fun k _ => f4 _ _ (by omega)⟩) _ u p (by omega) h
  refine hg rs μ3 m4 l1 T hP hc R3 H3 k4 k5 k70 k84 (fun c j z => (f41 c j (fun y => z (y.elim (fun y => Or.inr (Or.inl y)) (fun y => Or.inr (Or.inr y))))).trans (f1 c j (fun y => z (Or.inl y)))) fl (CNm_cg2 (funext fun x => f41 _ _ (by omega)) (funext fun x => f41 _ _ (by omega)) (funext fun x => f41 _ _ (by omega)) hC1) ?_ ?_ ?_ ?_ ?_ (ClS_cg (fun c j _ _ => f41 c j (by omega)) hCl) ⟨c, n1, ?_, ?_, ?_, ?_⟩ y4 (by rw [f4 _ _ (by omega)]; exact y5) (by rw [f4 _ _ (by omega)]; exact y6) ?_
  · rw [f41 _ _ (by omega)]
    exact e2
  · rw [f4 _ _ (by omega), y10 _ _ (by omega), ← em2, up_s]
  · rw [← em4, up_i (by decide), up_i (by decide), up_s]
  · rw [← em4, up_i (by decide), up_s]
  · rw [← em4, up_s]
  · rw [n2]
    exact KV_cg (fun c j z => f4 c j (by omega)) y2
  · rw [n2]
    exact CtT_fr (fun c j z => f4 c j (by omega)) y3
  · rw [n2, f4 s 6 (by omega)]
    intro k hk cs hcs hgd
    obtain ⟨u, u1, u2, u3⟩ := y7 k hk cs (TcR_cg (fun _ _ y => y) 11 _ cs (fun i _ _ => ⟨(f4 _ _ (by omega)).symm, (f4 _ _ (by omega)).symm, (f4 _ _ (by omega)).symm, (f4 _ _ (by omega)).symm⟩) (fun i _ _ => (f4 _ _ (by omega)).symm) hcs) hgd
    exact ⟨u, by rw [f4 _ _ (by omega)]; exact u1, u2, tg u _ u3⟩
  · rw [n2]
    obtain ⟨r1, r2, r3⟩ := y9
    refine ⟨by rw [f4 _ _ (by omega)]; exact r1, r2, fun k hk => ?_⟩
    obtain ⟨u, u1, u2, u3⟩ := r3 k hk
    exact ⟨u, u1, by rw [f4 _ _ (by omega)]; exact u2, tg u _ u3⟩
  · have g72 : m4 72 = m3 72 := funext fun j => f4 _ _ (by omega)
    have g76 : m4 76 = m3 76 := funext fun j => f4 _ _ (by omega)
    have g77 : m4 77 = m3 77 := funext fun j => f4 _ _ (by omega)
    have g78 : m4 78 = m3 78 := funext fun j => f4 _ _ (by omega)
    have g73 : m4 73 = m3 73 := funext fun j => f4 _ _ (by omega)
    have g74 : m4 74 = m3 74 := funext fun j => f4 _ _ (by omega)
    have g75 : m4 75 = m3 75 := funext fun j => f4 _ _ (by omega)
    have g71 : m4 71 7 = m3 71 7 := f4 _ _ (by omega)
    unfold FtI
    rw [g72, g76, g77, g78, g73, g74, g75, g71]
    exact y8
end CRW
