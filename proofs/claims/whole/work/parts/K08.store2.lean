/-! ===== the class's cells with its store: what may be made anew ===== -/
def cN (e : Nat) : Nat := if e = 108 then 9120 else 343140
/-- how many cells and places there will be at most -/
def nN (μ : am_Mem) (q e : Nat) : Nat := am_n μ + (if q = 85 then 8 else 0) + (if e = 108 then 1 else 0)
def sN (μ : am_Mem) (q e : Nat) : Nat := am_sl μ + (if q = 85 then 712992 else 0) + (if e = 108 then 343140 else 0)
/-- the shape of the class: its terms' rows at q, its codes at e -/
def ShX (s : Nat) (μ : am_Mem) (q e : Nat) : Prop := ShW s μ q ∧ (am_F μ 107 0 = e ∧ am_kd μ e = (7, cN e)) ∧ ((e = 108 ∨ 185 < e) ∧ ¬ (q ≤ e ∧ e ≤ q + 7) ∧ e < am_n μ) ∧ (q = 85 ∨ 185 < q) ∧ 186 ≤ am_n μ
/-- at most made anew -/
def Gx (μ : am_Mem) (q e : Nat) (μ' : am_Mem) (q' e' : Nat) : Prop := am_n μ ≤ am_n μ' ∧ (∀ c, c < am_n μ → am_kd μ' c = am_kd μ c) ∧ (∀ c f, ¬ (c = 84 ∧ 1 ≤ f ∧ f ≤ 8) → ¬ (c = 107 ∧ f = 0) → am_F μ' c f = am_F μ c f) ∧ (q' = q ∨ (q = 85 ∧ am_n μ ≤ q')) ∧ (e' = e ∨ (e = 108 ∧ am_n μ ≤ e')) ∧ nN μ' q' e' = nN μ q e ∧ sN μ' q' e' = sN μ q e
theorem Gx_r {μ : am_Mem} {q e : Nat} : Gx μ q e μ q e := ⟨Nat.le_refl _, fun _ _ => rfl, fun _ _ _ _ => rfl, Or.inl rfl, Or.inl rfl, rfl, rfl⟩
theorem Gx_t {s : Nat} {μ μ1 μ2 : am_Mem} {q q1 q2 e e1 e2 : Nat} (hS : ShX s μ q e) (h : Gx μ q e μ1 q1 e1) (h' : Gx μ1 q1 e1 μ2 q2 e2) : Gx μ q e μ2 q2 e2 := by
  obtain ⟨a1, a2, a3, a4, a5, a6, a7⟩ := h
  obtain ⟨b1, b2, b3, b4, b5, b6, b7⟩ := h'
  have := hS.2.2.2.2
  exact ⟨by omega, fun c hc => (b2 c (by omega)).trans (a2 c hc), fun c f h1 h2 => (b3 c f h1 h2).trans (a3 c f h1 h2), by omega, by omega, b6.trans a6, b7.trans a7⟩
theorem Gx_of {s : Nat} {μ μ' : am_Mem} {q q' e : Nat} (hS : ShX s μ q e) (h : Gw μ q μ' q') : Gx μ q e μ' q' e ∧ ShX s μ' q' e := by
  have hS' := Gw_S hS.1 h
  obtain ⟨_, ⟨x1, x2⟩, ⟨x3, x4, x5⟩, x6, x7⟩ := hS
  rcases h with ⟨e1, e2⟩ | ⟨e1, e2, e3⟩
  · rw [e1, e2]
    rw [e1, e2] at hS'
    exact ⟨Gx_r, hS', ⟨x1, x2⟩, ⟨x3, x4, x5⟩, x6, x7⟩
  · rw [e1] at hS' ⊢
    have hn := grM_n μ
    refine ⟨⟨by omega, fun c hc => grM_k hc, fun c f h1 _ => grM_F h1, Or.inr ⟨e2, by omega⟩, Or.inl rfl, ?_, ?_⟩, hS', ⟨(grM_F (by omega)).trans x1, (grM_k x5).trans x2⟩, ⟨x3, by omega, by omega⟩, Or.inr (by omega), by omega⟩
    · unfold nN
      rw [hn, if_neg (show ¬ q' = 85 by omega), if_pos e2]
    · unfold sN
      rw [grM_sl, if_neg (show ¬ q' = 85 by omega), if_pos e2]
/-- the codes made anew -/
def gcM (μ : am_Mem) : am_Mem := am_pR (am_nA μ 7 343140) 107 0 (am_n μ)
theorem gcM_n (μ : am_Mem) : am_n (gcM μ) = am_n μ + 1 := rfl
theorem gcM_k {μ : am_Mem} {c : Nat} (h : c < am_n μ) : am_kd (gcM μ) c = am_kd μ c := kd_nA (by omega)
theorem gcM_kn {μ : am_Mem} : am_kd (gcM μ) (am_n μ) = (7, 343140) := kd_nS
theorem gcM_F {μ : am_Mem} {c f : Nat} (h : ¬ (c = 107 ∧ f = 0)) : am_F (gcM μ) c f = am_F μ c f := by
  show am_u2 (am_F μ) 107 0 (am_n μ) c f = _
  unfold am_u2
  split
  · rename_i y
    first
    | exact absurd y h
    | exact absurd (by simpa using y) h
  · rfl
theorem gcM_Fs {μ : am_Mem} : am_F (gcM μ) 107 0 = am_n μ := by
  show am_u2 (am_F μ) 107 0 (am_n μ) 107 0 = _
  unfold am_u2
  simp
theorem nF_107 : ∀ j, j < 99 → ¬ ((cFl.getD j (0, 0, 0)).1 = 107 ∧ (cFl.getD j (0, 0, 0)).2.1 = 0) := by decide
theorem gcM_S {s : Nat} {μ : am_Mem} {q : Nat} (hS : ShX s μ q 108) : ShX s (gcM μ) q (am_n μ) ∧ Gx μ q 108 (gcM μ) q (am_n μ) := by
  obtain ⟨⟨s1, s2, s3, s4, s5, s6⟩, ⟨x1, x2⟩, ⟨x3, x4, x5⟩, x6, x7⟩ := hS
  have hC : CS (gcM μ) := ⟨fun i hi => by rw [gcM_k (by omega)]; exact s1.1 i hi, fun j hj => by rw [gcM_F (nF_107 j hj)]; exact s1.2 j hj⟩
  have hT : TS (gcM μ) q (tN q) (4 * tN q) (tS q) := by
    obtain ⟨⟨t1, t2, t3, t4, t5, t6, t7, t8⟩, k0, k1, k2, k3, k4, k5, k6, k7⟩ := s2
    refine ⟨⟨(gcM_F (by decide)).trans t1, (gcM_F (by decide)).trans t2, (gcM_F (by decide)).trans t3, (gcM_F (by decide)).trans t4, (gcM_F (by decide)).trans t5, (gcM_F (by decide)).trans t6, (gcM_F (by decide)).trans t7, (gcM_F (by decide)).trans t8⟩, (gcM_k (by omega)).trans k0, (gcM_k (by omega)).trans k1, (gcM_k (by omega)).trans k2, (gcM_k (by omega)).trans k3, (gcM_k (by omega)).trans k4, (gcM_k (by omega)).trans k5, (gcM_k (by omega)).trans k6, (gcM_k (by omega)).trans k7⟩
  have hn := gcM_n μ
  have hc : cN (am_n μ) = 343140 := if_neg (by omega)
  refine ⟨⟨⟨hC, hT, s3, ⟨by omega, by omega⟩, (gcM_F (by decide)).trans s5, (gcM_F (by decide)).trans s6⟩, ⟨gcM_Fs, by rw [hc]; exact gcM_kn⟩, ⟨Or.inr (by omega), by omega, by omega⟩, x6, by omega⟩, by omega, fun c hc => gcM_k hc, fun c f _ h2 => gcM_F h2, Or.inl rfl, Or.inr ⟨rfl, Nat.le_refl _⟩, ?_, ?_⟩
  · unfold nN
    rw [hn, if_pos rfl, if_neg (show ¬ am_n μ = 108 by omega)]
    omega
  · unfold sN
    rw [if_pos rfl, if_neg (show ¬ am_n μ = 108 by omega)]
    show am_sl μ + 343140 + _ + 0 = _
    omega
theorem fits_sh {a : Int} (h : 0 ≤ a ∧ a ≤ 32767) : fits .short (.int (zI a)) = true := by
  have h1 : (-32768 : Int32) ≤ zI a := (leE (x := (-32768 : Int32)) (a := -32768) (by decide) rfl ⟨by decide, by decide⟩ ⟨by omega, by omega⟩).mpr (by omega)
  have h2 : zI a ≤ (32767 : Int32) := (leE (y := (32767 : Int32)) (b := 32767) rfl (by decide) ⟨by omega, by omega⟩ ⟨by decide, by decide⟩).mpr (by omega)
  show (decide ((-32768 : Int32) ≤ zI a) && decide (zI a ≤ (32767 : Int32))) = true
  rw [decide_eq_true h1, decide_eq_true h2]
  rfl
section CGC
variable {d : Nat} {Q : Option Value ⊕ Nat → am_Mem → Prop} {μ : am_Mem} {m l : PM} {s q e r1 : Nat}
/-- a row of shorts is made anew with the old one's numbers -/
theorem c_copySh {a : Nat} (hk : am_kd μ a = (7, 9120)) (ha : ¬ a = am_n μ) (hsh : ∀ j, 0 ≤ m a j ∧ m a j ≤ 32767) : Wp d 293 (0, [some (.ref a), some (.int (343140 : Int32)), none], [], sA μ m l) (pR (fun r μ' => r = am_n μ ∧ μ' = sA (am_nA μ 7 343140) (nwM m (am_n μ) (fun j => if j < 9120 then m a j else 0)) (nwM l (am_n μ) (fun _ => 0))) noX) := by
  have hk' : am_kd (sA μ m l) a = (7, 9120) := hk
  have en : am_n (sA μ m l) = am_n μ := rfl
  have e343 : (343140 : Int32).toNatClampNeg = 343140 := by decide
  refine b293_0 (by rw [hk']; exact ⟨by show 2 ≤ 7; decide, by show 7 ≤ 10; decide, by show ¬ (7 = 9); decide⟩) (fun _ => ?_) (fun z => absurd (by rw [hk']; decide) z)
  have hk2 : am_kd (am_nA (sA μ m l) 7 (343140 : Int32).toNatClampNeg) a = (7, 9120) := by rw [kd_nA (by rw [en]; exact ha)]; exact hk
  have hk3 : am_kd (am_nA (sA μ m l) 7 (343140 : Int32).toNatClampNeg) (am_n (sA μ m l)) = (7, (343140 : Int32).toNatClampNeg) := kd_nS
  have eif : (if (343140 : Int32) < Int32.ofNat 9120 then (343140 : Int32) else Int32.ofNat 9120) = Int32.ofNat 9120 := by decide
  have e9 : (Int32.ofNat 9120).toNatClampNeg = 9120 := by decide
  have e0 : (Int32.ofInt 0).toNatClampNeg = 0 := by decide
  refine b293_14 ⟨by decide, by decide⟩ (by rw [hk2]; exact ⟨by show 2 ≤ 7; decide, by show 7 ≤ 10; decide, by show ¬ (7 = 9); decide⟩) (Or.inr ⟨by rw [hk2], by rw [hk3], fun i _ => ?_⟩) (by rw [hk2]; show ¬ (if (343140 : Int32) < Int32.ofNat 9120 then (343140 : Int32) else Int32.ofNat 9120) < 0 ∧ _; rw [eif]; exact ⟨by decide, by decide, by decide⟩) (by
    rw [hk2, hk3]
    show (Int32.ofInt 0).toNatClampNeg + (if (343140 : Int32) < Int32.ofNat 9120 then (343140 : Int32) else Int32.ofNat 9120).toNatClampNeg ≤ 9120 ∧ (Int32.ofInt 0).toNatClampNeg + (if (343140 : Int32) < Int32.ofNat 9120 then (343140 : Int32) else Int32.ofNat 9120).toNatClampNeg ≤ (343140 : Int32).toNatClampNeg
    rw [eif, e9, e0, e343]
    omega) ?_
  · have hA : am_A (am_nA (sA μ m l) 7 (343140 : Int32).toNatClampNeg) a ((Int32.ofInt 0).toNatClampNeg + i) = zI (m a (((Int32.ofInt 0).toNatClampNeg + i : Nat) : Int)) := by
      show am_u1 (fun (c : Nat) (j : Nat) => zI (m c (j : Int))) (am_n μ) (fun _ => 0) a _ = _
      unfold am_u1
      rw [if_neg ha]
    rw [hA]
    exact fits_sh (hsh _)
  · rw [hk2]
    show Wp d 293 (31, _, [], am_wA (am_nA (sA μ m l) 7 (343140 : Int32).toNatClampNeg) (am_n (sA μ m l)) (am_cp (am_A (am_nA (sA μ m l) 7 (343140 : Int32).toNatClampNeg) a) (am_A (am_nA (sA μ m l) 7 (343140 : Int32).toNatClampNeg) (am_n (sA μ m l))) (Int32.ofInt 0).toNatClampNeg (Int32.ofInt 0).toNatClampNeg (if (343140 : Int32) < Int32.ofNat 9120 then (343140 : Int32) else Int32.ofNat 9120).toNatClampNeg)) _
    rw [eif, e9, e0, e343, en]
    have ew : am_wA (am_nA (sA μ m l) 7 343140) (am_n μ) (am_cp (am_A (am_nA (sA μ m l) 7 343140) a) (am_A (am_nA (sA μ m l) 7 343140) (am_n μ)) 0 0 9120) = sA (am_nA μ 7 343140) (nwM (nwM m (am_n μ) (fun _ => 0)) (am_n μ) (fun j => if j < 9120 then m a j else 0)) (nwM l (am_n μ) (fun _ => 0)) := by
      rw [nA_sA]
      refine wA_sA _ _ _ _ _ _ (fun j => ?_)
      unfold am_cp
      by_cases y : j < 9120
      · rw [if_pos ⟨Nat.zero_le _, by omega⟩, if_pos (by omega)]
        show zI (nwM m (am_n μ) (fun _ => 0) a ((0 + (j - 0) : Nat) : Int)) = zI (m a (j : Int))
        rw [nwM_o ha]
        congr 2
        omega
      · rw [if_neg (by omega), if_neg (by omega)]
        show zI (nwM m (am_n μ) (fun _ => 0) (am_n μ) (j : Int)) = zI 0
        rw [nwM_s]
    rw [ew]
    have e2 : nwM (nwM m (am_n μ) (fun _ => 0)) (am_n μ) (fun j => if j < 9120 then m a j else 0) = nwM m (am_n μ) (fun j => if j < 9120 then m a j else 0) := by
      funext c j
      unfold nwM
      split
      · rfl
      · rfl
    rw [e2]
    exact b293_31 ⟨rfl, rfl⟩
/-- there is place for the codes of a state -/
theorem st_0 {n f : Nat} {x2 : Int} (hS : ShX s μ q e) (hsh : ∀ j, 0 ≤ m e j ∧ m e j ≤ 32767) (e3 : m 107 3 = (n : Int)) (hn : n ≤ 300) (ef : m 109 (n : Int) = (f : Int)) (hf : f ≤ 1140 * n) (hfc : f ≤ cN e)
    (h : ∀ (μ' : am_Mem) (m' l' : PM) (e' : Nat), Gx μ q e μ' q e' → ShX s μ' q e' → (∀ c j, c < am_n μ → m' c j = m c j ∧ l' c j = l c j) → (∀ j, j < (f : Int) → m' e' j = m e j) → (∀ j, 0 ≤ m' e' j ∧ m' e' j ≤ 32767) → f + 1140 ≤ cN e' → Wp (d + 2) 84 (38, [some (.ref 107), some (.ref r1), some (.int (zI x2)), some (.ref 84), some (.int (zI (f : Int))), none], [], sA μ' m' l') Q) :
    Wp (d + 2) 84 (0, [some (.ref 107), some (.ref r1), some (.int (zI x2)), some (.ref 84), none, none], [], sA μ m l) Q := by
  obtain ⟨⟨s1, _, _, s4, _⟩, ⟨x1, x2'⟩, ⟨x3, x4, x5⟩, _, x7⟩ := id hS
  have k107 : am_kd (sA μ m l) 107 = (1, 7) := cK_107 s1
  have k109 : am_kd (sA μ m l) 109 = (2, 302) := cK_109 s1
  have F1 : am_F (sA μ m l) 107 1 = 109 := cF_107_1 s1
  have F0 : am_F (sA μ m l) 107 0 = e := x1
  have ke : am_kd (sA μ m l) e = (7, cN e) := x2'
  have a3 : am_A (sA μ m l) 107 3 = zI (n : Int) := by
    show zI (m 107 ((3 : Nat) : Int)) = _
    rw [← e3]
    rfl
  have c3 := clE (x := zI (n : Int)) (a := (n : Int)) (n := 302) rfl ⟨by omega, by omega⟩ (by decide)
  have a9 : am_A (sA μ m l) 109 (zI (n : Int)).toNatClampNeg = zI (f : Int) := by
    show zI (m 109 (((zI (n : Int)).toNatClampNeg : Nat) : Int)) = _
    rw [c3, ef]
  have hcN : cN e = 9120 ∨ cN e = 343140 := by
    unfold cN
    split
    · exact Or.inl rfl
    · exact Or.inr rfl
  have eadd : zI (f : Int) + (Int16.ofInt 1140).toInt32 = zI ((f : Int) + 1140) := addE rfl (by decide)
  have elen : Int32.ofNat (cN e) = zI (cN e : Int) := Int32.ofInt_eq_ofNat.symm
  have neg : ∀ y : Int, iR y → 0 ≤ y → ¬ zI y < 0 := fun y hy h z => by
    rw [ltE rfl z0 hy ⟨by decide, by decide⟩] at z
    omega
  refine b84_0 k107 (by rw [F1]; decide) k107 (by rw [F1, k109]; exact Or.inl rfl) ?_ k107 (by rw [F0]; omega) (by rw [F0, ke]; exact ⟨by show 2 ≤ 7; decide, by show 7 ≤ 10; decide, by show ¬ (7 = 9); decide⟩) (fun z => ?_) (fun z => ?_)
  · rw [F1, k109, a3]
    rintro (z | z)
    · exact neg _ ⟨by omega, by omega⟩ (by omega) z
    · have : (302 : Nat) ≤ (zI (n : Int)).toNatClampNeg := z
      omega
  · rw [F1, F0, ke, a3, a9] at z
    rw [F1, a3, a9]
    have z' : zI (f : Int) + (Int16.ofInt 1140).toInt32 ≤ Int32.ofNat (cN e) := z
    rw [eadd, elen, leE rfl rfl ⟨by omega, by omega⟩ ⟨by omega, by omega⟩] at z'
    exact h μ m l e Gx_r hS (fun _ _ _ => ⟨rfl, rfl⟩) (fun _ _ => rfl) hsh (by omega)
  · rw [F1, F0, ke, a3, a9] at z
    rw [F1, a3, a9]
    have z' : ¬ zI (f : Int) + (Int16.ofInt 1140).toInt32 ≤ Int32.ofNat (cN e) := z
    rw [eadd, elen, leE rfl rfl ⟨by omega, by omega⟩ ⟨by omega, by omega⟩] at z'
    have e108 : e = 108 := by
      rcases x3 with y | y
      · exact y
      · have : cN e = 343140 := if_neg (by omega)
        omega
    rw [e108] at hS x5 F0 hsh ke h
    have kc : cN 108 = 9120 := rfl
    refine b84_25 (d := d + 1) (P := fun r μ' => r = am_n μ ∧ μ' = sA (am_nA μ 7 343140) (nwM m (am_n μ) (fun j => if j < 9120 then m 108 j else 0)) (nwM l (am_n μ) (fun _ => 0))) (X := noX) k107 (by rw [F0]; decide) ?_ (fun r μ' hp => ?_) (fun _ _ z => z.elim)
    · rw [F0]
      exact c_copySh ke (by omega) hsh
    · rw [hp.1, hp.2]
      obtain ⟨g1, g2⟩ := gcM_S hS
      refine b84_35 (by show am_kd (am_nA μ 7 343140) 107 = _; rw [kd_nA (by omega)]; exact k107) (by omega) ?_
      have hcn : cN (am_n μ) = 343140 := if_neg (by omega)
      show Wp (d + 2) 84 (38, _, [], sA (gcM μ) (nwM m (am_n μ) (fun j => if j < 9120 then m 108 j else 0)) (nwM l (am_n μ) (fun _ => 0))) Q
      refine h (gcM μ) _ _ (am_n μ) g2 g1 (fun c j hc => ⟨nwM_o (by omega), nwM_o (by omega)⟩) (fun j hj => ?_) (fun j => ?_) (by omega)
      · rw [e108, kc] at hfc
        rw [nwM_s, if_pos (by omega)]
      · rw [nwM_s]
        split
        · exact hsh j
        · exact ⟨by decide, by decide⟩
end CGC
