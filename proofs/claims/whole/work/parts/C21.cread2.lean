/-! ===== the class's read: parse from its start, read up to its verdict ===== -/
theorem chF_R (rs : List Rul) : iR (chF rs).1 := by
  unfold chF
  repeat' split
  · exact (⟨by decide, by decide⟩ : iR 2)
  · exact (⟨by decide, by decide⟩ : iR 3)
  · exact (⟨by decide, by decide⟩ : iR 4)
  · exact (⟨by decide, by decide⟩ : iR 5)
  · exact (⟨by decide, by decide⟩ : iR 6)
  · exact (⟨by decide, by decide⟩ : iR 7)
  · exact (⟨by decide, by decide⟩ : iR 0)
section CRE
variable {d : Nat} {μ : am_Mem} {s : Nat} {l : PM} {Q : Option Value ⊕ Nat → am_Mem → Prop} {t : Int → Int} {n : Int} {X : Int → List Int → Prop} {J : Nat}
theorem k_parse {m : PM} (H0 : CS μ) (hs : s = 22 ∨ s = 42) (hX : XP X) (hn : 0 ≤ n ∧ n ≤ 2000) (hT : TkE t n X J m) (h6 : m s 6 = 0) : Wp (d + 27) 55 (0, [some (.ref 62), some (.ref s), none], [], sA μ m l) (pI (fun y μ' => ∃ (x : Int) (m' : PM), y = zI x ∧ μ' = sA (am_pR μ 62 1 s) m' l ∧ ShQ t n X s m 0 (pSh t n 60 0 []) x m') noX) := by
  have H : CS (am_pR μ 62 1 s) := CS_pR nF_62_1 H0
  have hS : am_F (am_pR μ 62 1 s) 62 1 = s := by
    show (if (62 : Nat) = 62 ∧ (1 : Nat) = 1 then s else am_F μ 62 1) = s
    exact if_pos ⟨rfl, rfl⟩
  refine b55_0 (cK_62 H0) (by rcases hs with rfl | rfl <;> decide) (show am_kd μ 62 = (1, 4) from cK_62 H0) ?_
  rw [pR_sA]
  have e : am_pA (sA (am_pR μ 62 1 s) m l) 62 2 (Int32.ofInt 0) = sA (am_pR μ 62 1 s) (up m 62 2 0) l := wfE (mr _ m l) (rfl : 62 = 62) (rfl : ((2 : Nat) : Int) = 2) (zr 0)
  rw [e]
  have k : ∀ c j, ¬ (c = 62 ∧ j = 2) → up m 62 2 0 c j = m c j := fun c j q => up_o q
  have z := ps_12 (d := d) (l := l) (m0 := m) (N := 0) (J := J) H hs hS hX hn 60 (up m 62 2 0) 0 [] rfl ⟨⟨hT.1, hT.2.1, hT.2.2.1, fun j hj => by rw [k _ _ (by omega), k _ _ (by omega), k _ _ (by omega)]; exact hT.2.2.2 j hj⟩, up_s _ _ _ _, Nat.zero_le _, by rw [k _ _ (by omega), h6]; exact ⟨Int.le_refl _, by omega⟩⟩ (Or.inl rfl) (fun r hr => absurd hr (Nat.not_lt_zero r)) (fun c j hn => k c j (fun q => hn (Or.inl (Or.inl ⟨q.1, Or.inl q.2⟩)))) (by rw [k _ _ (by omega), h6]; exact Int.le_refl _) (fun i i1 i2 => by rw [k s 6 (by omega), h6] at i2; omega)
  exact z
theorem k_read1 {m : PM} (H : CS μ) (hs : s = 22 ∨ s = 42) (h5 : am_F μ 16 5 = s) (hM : CNm m (s + 1)) (hn : 0 ≤ m 16 1 ∧ m 16 1 ≤ 2000) (hr : ∀ j, 0 ≤ m 17 j ∧ m 17 j ≤ 127) (hk1 : am_kd μ 1 = (8, 8)) (h1 : ∀ j : Nat, j < 8 → m 1 (j : Int) = fixV.getD j 0)
    (hb : ∀ (μ' : am_Mem) (m' l' : PM), SmS μ μ' → CS μ' → (∀ c j, ¬ WRd s c j → m' c j = m c j) → (∀ c j, ¬ c = 68 → l' c j = l c j) → CNm m' (s + 1) → m' 16 2 = (vd (m 17) (m 16 1)).2 → ¬ (vd (m 17) (m 16 1)).1 = 0 → Q (.inl (some (.int (zI (vd (m 17) (m 16 1)).1)))) (sA μ' m' l'))
    (hg : ∀ (rs : List Rul) (μ' : am_Mem) (m' l' : PM), pSh (m 17) (m 16 1) 60 0 [] = .inr rs → (chF rs).1 = 0 → SmS μ μ' → CS μ' → (∀ c j, ¬ WRd s c j → m' c j = m c j) → (∀ c j, ¬ c = 68 → l' c j = l c j) → CNm m' (s + 1) → m' 16 2 = (chF rs).2 → ClS s rs m' → Wp (d + 28) 119 (79, [some (.ref 16), some (.int (zI 0)), none], [], sA μ' m' l') Q) :
    Wp (d + 28) 119 (0, [some (.ref 16), none, none], [], sA μ m l) Q := by
  refine K119_0 H hs h5 ⟨fun μ' => ∃ m', μ' = sA μ m' l ∧ NcI m' (s + 1) 10 ∧ (∀ k, k < 10 → cn m' (s + 1) k = cwW.getD k []) ∧ m' (s + 4) 10 = 48 ∧ m' s 6 = 0 ∧ (∀ x j, ¬ (s ≤ x ∧ x ≤ s + 5) → m' x j = m x j) ∧ CNm m' (s + 1), noX, k_sclear (d := d + 23) H hs hM (fun m' g1 g2 g3 g4 g5 g6 => ⟨m', rfl, g1, g2, g3, g4, g5, g6⟩), fun μ' hp => ?_, fun _ _ z => z.elim⟩
  obtain ⟨m1, rfl, g1, g2, g3, g4, g5, g6⟩ := hp
  have e17 : m1 17 = m 17 := funext fun j => g5 _ _ (by omega)
  have e161 : m1 16 1 = m 16 1 := g5 _ _ (by omega)
  refine K119_7 H hs h5 ⟨fun μ' => ∃ (m' : PM) (c J : Nat), μ' = sA μ m' l ∧ SpF (m 17) (m 16 1) m' (s + 1) c J ∧ (∀ x j, ¬ SSp (s + 1) x j → m' x j = m1 x j), noX, ?_, fun μ' hp => ?_, fun _ _ z => z.elim⟩
  · rw [e161]
    exact k_split2 (d := d + 23) H (a_of hs) hn e17 hr g1 g2 g3 g6.1 (fun m' c J y1 y2 _ => ⟨m', c, J, rfl, y1, y2⟩)
  obtain ⟨m2, c, J, rfl, hF, f2⟩ := hp
  obtain ⟨p1, p2, ⟨p3, p4, p5, p6⟩, p7, p8, p9⟩ := hF
  have hnt := nt_le (t := m 17) hn J
  have hNm : NmC m2 (s + 1) c := ⟨p3, p4, by omega, p6⟩
  have hC2 : CNm m2 (s + 1) := ⟨p6.2.2, p3.1.2.2.2.2.2, fun j hj => by rw [f2 _ _ (by omega)]; exact g6.2.2.1 j hj, fun j => by rw [f2 _ _ (by omega)]; exact g6.2.2.2 j⟩
  obtain ⟨hX, hX2⟩ := NmC_X hNm
  have hT : TkE (m 17) (m 16 1) (cX m2 (s + 1) c) J m2 := ⟨by omega, p1, p2, p9⟩
  have F2 : ∀ x j, ¬ WRd s x j → m2 x j = m x j := fun x j q => (f2 x j (by omega)).trans (g5 x j (by omega))
  refine K119_25 H hs h5 ⟨_, _, k_parse (d := d) (l := l) H hs hX hn hT (by rw [f2 _ _ (by omega)]; exact g4), fun y μ' hp => ?_, fun _ _ z => z.elim⟩
  obtain ⟨x, m3, rfl, rfl, fr3, hsh⟩ := hp
  have H3 : CS (am_pR μ 62 1 s) := CS_pR nF_62_1 H
  have h53 : am_F (am_pR μ 62 1 s) 16 5 = s := h5
  have S3 : SmS μ (am_pR μ 62 1 s) := SmS_pR (Or.inl rfl) ⟨rfl, rfl, rfl, fun _ _ _ => rfl⟩
  have k3 : ∀ x j, s + 1 ≤ x → x ≤ s + 5 → m3 x j = m2 x j := fun x j q1 q2 => fr3 x j (by omega)
  have F3 : ∀ x j, ¬ WRd s x j → m3 x j = m x j := fun x j q => (fr3 x j (by omega)).trans (F2 x j q)
  have hC3 : CNm m3 (s + 1) := CNm_cg2 (funext fun x => k3 _ _ (by omega) (by omega)) (funext fun x => k3 _ _ (by omega) (by omega)) (funext fun x => k3 _ _ (by omega) (by omega)) hC2
  cases hP : pSh (m 17) (m 16 1) 60 0 [] with
  | inl e =>
    rw [hP] at hsh
    have hx : x = tkP (m 17) (m 16 1) e := hsh
    have hR := tkP_r (t := m 17) hn.1 e
    have ev : vd (m 17) (m 16 1) = (1, tkP (m 17) (m 16 1) e) := by unfold vd; rw [hP]
    refine K119_37 H3 hs h53 ⟨⟨by omega, by omega⟩, fun q => by omega, fun _ => ?_⟩
    rintro m4 rfl
    have zb := hb (am_pR μ 62 1 s) (up m3 16 2 x) l S3 H3 (fun c j q => by rw [up_o (by omega)]; exact F3 c j q) (fun _ _ _ => rfl) (CNm_cg2 (funext fun x => up_c (by omega)) (funext fun x => up_c (by omega)) (funext fun x => up_c (by omega)) hC3) (by rw [up_s, ev, hx]) (by rw [ev]; exact (by decide : ¬ (1 : Int) = 0))
    rw [ev] at zb
    exact zb
  | inr rs =>
    rw [hP] at hsh
    obtain ⟨hx, hSh, hcv⟩ := hsh
    have ev : vd (m 17) (m 16 1) = chF rs := by unfold vd; rw [hP]
    refine K119_37 H3 hs h53 ⟨by rw [hx]; exact ⟨by decide, by decide⟩, fun _ => ?_, fun q => absurd hx q⟩
    rintro m4 e4
    have k4 : ∀ c j, ¬ (c = 16 ∧ j = 2) → m4 c j = m3 c j := fun c j q => by rw [e4]; exact up_o q
    have hN4 := NmC_cg (m' := m4) (m := m2) (a := s + 1) (c := c) (by rw [k4 _ _ (by omega), k3 _ _ (by omega) (by omega)]) (funext fun x => by rw [k4 _ _ (by omega), k3 _ _ (by omega) (by omega)]) (funext fun x => by rw [k4 _ _ (by omega), k3 _ _ (by omega) (by omega)]) (funext fun x => by rw [k4 _ _ (by omega), k3 _ _ (by omega) (by omega)]) hNm
    have hv3 : KV (cX m2 (s + 1) c) s m3 rs := ⟨hSh, hX, hX2, pSh_ok 60 0 [] rs (fun _ z => absurd z List.not_mem_nil) hP, pSh_nm 60 0 [] rs (fun _ z => absurd z List.not_mem_nil) hP⟩
    have hv : KV (cX m2 (s + 1) c) s m4 rs := KV_cg (fun c j q => k4 c j (by rcases hs with rfl | rfl <;> omega)) hv3
    refine ⟨_, _, k_check (d := d + 21) (l := l) H3 hs hv hk1 (fun j hj => by rw [k4 _ _ (by omega), F3 _ _ (by omega)]; exact h1 j hj), fun y μ' hp => ?_, fun _ _ z => z.elim⟩
    obtain ⟨y', m5, l5, rfl, rfl, c1, c2, c3, c4, c5⟩ := hp
    have H5 : CS (am_pR (am_pR μ 62 1 s) 65 1 s) := CS_pR nF_65_1 H3
    have h55 : am_F (am_pR (am_pR μ 62 1 s) 65 1 s) 16 5 = s := h5
    have S5 : SmS μ (am_pR (am_pR μ 62 1 s) 65 1 s) := SmS_pR (Or.inr rfl) S3
    have k5 : ∀ x j, s + 1 ≤ x → x ≤ s + 5 → m5 x j = m4 x j := fun x j q1 q2 => c2 x j (by omega)
    have k6 : ∀ x j, s + 1 ≤ x → x ≤ s + 5 → up m5 16 2 (m5 65 0) x j = m3 x j := fun x j q1 q2 => by rw [up_c (by omega), k5 x j q1 q2, k4 x j (by omega)]
    have F5 : ∀ c j, ¬ WRd s c j → up m5 16 2 (m5 65 0) c j = m c j := fun c j q => by
      rw [up_o (by omega), c2 c j (by omega), k4 c j (by omega)]
      exact F3 c j q
    have hC5 : CNm (up m5 16 2 (m5 65 0)) (s + 1) := CNm_cg2 (funext fun x => k6 _ _ (by omega) (by omega)) (funext fun x => k6 _ _ (by omega) (by omega)) (funext fun x => k6 _ _ (by omega) (by omega)) hC3
    have e162 : up m5 16 2 (m5 65 0) 16 2 = (chF rs).2 := by rw [up_s]; exact c4
    have hyR : iR y' := by
      rw [c1]
      exact chF_R rs
    refine K119_61 H5 hs h55 ⟨hyR, fun q => ?_, fun q => ?_⟩
    · rintro m6 e6
      have q0 : (chF rs).1 = 0 := c1.symm.trans q
      obtain ⟨m0, h, d1, d2, d3, d4⟩ := c5 q0
      have hN6 := NmC_cg (m' := m6) (m := m2) (a := s + 1) (c := c) (by rw [e6, k6 _ _ (by omega) (by omega), k3 _ _ (by omega) (by omega)]) (funext fun x => by rw [e6, k6 _ _ (by omega) (by omega), k3 _ _ (by omega) (by omega)]) (funext fun x => by rw [e6, k6 _ _ (by omega) (by omega), k3 _ _ (by omega) (by omega)]) (funext fun x => by rw [e6, k6 _ _ (by omega) (by omega), k3 _ _ (by omega) (by omega)]) hNm
      have ag : ∀ c j, SHc s c j → m6 c j = m0 c j := fun c j q => by
        rw [e6, up_o (by rcases hs with rfl | rfl <;> omega)]
        exact d1 c j (by rcases hs with rfl | rfl <;> omega)
      have hE : ∀ c j, s ≤ c → c ≤ s + 19 → m6 c j = m5 c j := fun c j q1 q2 => by rw [e6, up_c (by omega)]
      rw [q, e6]
      rw [e6] at hN6 ag hE
      exact hg rs _ _ l5 hP q0 S5 H5 F5 c3 hC5 e162 ⟨c, m0, m5, l5, h, hN6.1, by rw [hN6.2]; exact KV_cg ag d2, by rw [hN6.2]; exact d2, ag, by rw [hN6.2]; exact d3, d4, by
        have y : ∀ c j, s + 6 ≤ c → c ≤ s + 10 → up m5 16 2 (m5 65 0) c j = m3 c j := fun c j q1 q2 => by rw [up_c (by omega), c2 c j (by rcases hs with rfl | rfl <;> omega), k4 c j (by omega)]
        have y6 : up m5 16 2 (m5 65 0) s 6 = m3 s 6 := by rw [up_c (by omega), c2 s 6 (by rcases hs with rfl | rfl <;> omega), k4 s 6 (by omega)]
        rw [hN6.2, y6]
        exact CovC_cg (N := m3 s 6) (Int.le_refl _) (fun i _ => ⟨y _ _ (by omega) (by omega), y _ _ (by omega) (by omega), y _ _ (by omega) (by omega), y _ _ (by omega) (by omega)⟩) (fun i _ => y _ _ (by omega) (by omega)) hcv, hE⟩
    · rintro m6 rfl
      have zb := hb _ _ l5 S5 H5 F5 c3 hC5 (by rw [ev]; exact e162) (by rw [ev, ← c1]; exact q)
      rw [ev, ← c1] at zb
      exact zb
end CRE
