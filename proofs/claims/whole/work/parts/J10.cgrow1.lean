/-! ===== the class's terms: rows made anew ===== -/
def nwM (m : PM) (n : Nat) (r : Int → Int) : PM := fun c j => if c = n then r j else m c j
theorem nwM_o {m : PM} {n c : Nat} {r : Int → Int} {j : Int} (h : ¬ c = n) : nwM m n r c j = m c j := if_neg h
theorem nwM_s {m : PM} {n : Nat} {r : Int → Int} {j : Int} : nwM m n r n j = r j := if_pos rfl
theorem nA_sA (μ : am_Mem) (m l : PM) (t N : Nat) : am_nA (sA μ m l) t N = sA (am_nA μ t N) (nwM m (am_n μ) (fun _ => 0)) (nwM l (am_n μ) (fun _ => 0)) := by
  unfold am_nA sA
  refine Prod.ext rfl (Prod.ext rfl (Prod.ext rfl (Prod.ext ?_ (Prod.ext ?_ rfl))))
  · funext c j
    show am_u1 (fun (c : Nat) (j : Nat) => zI (m c (j : Int))) (am_n μ) (fun _ => 0) c j = zI (nwM m (am_n μ) (fun _ => 0) c (j : Int))
    unfold am_u1 nwM
    split
    · rfl
    · rfl
  · funext c j
    show am_u1 (fun (c : Nat) (j : Nat) => zL (l c (j : Int))) (am_n μ) (fun _ => 0) c j = zL (nwM l (am_n μ) (fun _ => 0) c (j : Int))
    unfold am_u1 nwM
    split
    · rfl
    · rfl
theorem wA_sA (μ : am_Mem) (m l : PM) (n : Nat) (g : Nat → Int32) (r : Int → Int) (h : ∀ j : Nat, g j = zI (r (j : Int))) : am_wA (sA μ m l) n g = sA μ (nwM m n r) l := by
  unfold am_wA sA
  refine Prod.ext rfl (Prod.ext rfl (Prod.ext rfl (Prod.ext ?_ (Prod.ext rfl rfl))))
  funext c j
  show am_u1 (fun (c : Nat) (j : Nat) => zI (m c (j : Int))) n g c j = zI (nwM m n r c (j : Int))
  unfold am_u1 nwM
  split
  · exact h j
  · rfl
theorem kd_nA {μ : am_Mem} {t N c : Nat} (h : ¬ c = am_n μ) : am_kd (am_nA μ t N) c = am_kd μ c := by
  show am_u1 (am_kd μ) (am_n μ) (t, N) c = _
  unfold am_u1
  exact if_neg h
theorem kd_nS {μ : am_Mem} {t N : Nat} : am_kd (am_nA μ t N) (am_n μ) = (t, N) := by
  show am_u1 (am_kd μ) (am_n μ) (t, N) (am_n μ) = _
  unfold am_u1
  exact if_pos rfl
/-- a row is made anew with the old one's numbers -/
theorem c_copyOf {d : Nat} {μ : am_Mem} {m l : PM} {a len N' : Nat} {x1 : Int32} (hk : am_kd μ a = (2, len)) (ha : ¬ a = am_n μ) (hN : N' ≤ 60000000) (hle : len ≤ N') (hx1 : ¬ x1 < 0) (hx2 : x1.toNatClampNeg = N') (hx3 : ¬ x1 = Int32.ofNat len) (hx4 : ¬ x1 < Int32.ofNat len) (hx5 : (Int32.ofNat len).toNatClampNeg = len) (hx6 : ¬ Int32.ofNat len < 0) : Wp d 292 (0, [some (.ref a), some (.int x1), none], [], sA μ m l) (pR (fun r μ' => r = am_n μ ∧ μ' = sA (am_nA μ 2 N') (nwM m (am_n μ) (fun j => if j < (len : Int) then m a j else 0)) (nwM l (am_n μ) (fun _ => 0))) noX) := by
  have hk' : am_kd (sA μ m l) a = (2, len) := hk
  have en : am_n (sA μ m l) = am_n μ := rfl
  refine b292_0 (by rw [hk']; exact ⟨by show 2 ≤ 2; decide, by show 2 ≤ 10; decide, by show ¬ (2 = 9); decide⟩) (fun _ => ?_) (fun z => absurd (by rw [hk']; exact hx3) z)
  have hk2 : am_kd (am_nA (sA μ m l) 2 x1.toNatClampNeg) a = (2, len) := by rw [kd_nA (by rw [en]; exact ha)]; exact hk
  have hk3 : am_kd (am_nA (sA μ m l) 2 x1.toNatClampNeg) (am_n (sA μ m l)) = (2, x1.toNatClampNeg) := kd_nS
  have eif : (if x1 < Int32.ofNat len then x1 else Int32.ofNat len) = Int32.ofNat len := if_neg hx4
  have e0 : (Int32.ofInt 0).toNatClampNeg = 0 := by decide
  refine b292_14 ⟨hx1, by rw [hx2]; exact hN⟩ (by rw [hk2]; exact ⟨by show 2 ≤ 2; decide, by show 2 ≤ 10; decide, by show ¬ (2 = 9); decide⟩) (Or.inl ⟨Or.inl (by rw [hk2]), by rw [hk3]⟩) (by rw [hk2]; show ¬ (if x1 < Int32.ofNat len then x1 else Int32.ofNat len) < 0 ∧ _; rw [eif]; exact ⟨hx6, by decide, by decide⟩) (by
    rw [hk2, hk3]
    show (Int32.ofInt 0).toNatClampNeg + (if x1 < Int32.ofNat len then x1 else Int32.ofNat len).toNatClampNeg ≤ len ∧ (Int32.ofInt 0).toNatClampNeg + (if x1 < Int32.ofNat len then x1 else Int32.ofNat len).toNatClampNeg ≤ x1.toNatClampNeg
    rw [eif, hx5, e0, hx2]
    omega) ?_
  rw [hk2]
  show Wp d 292 (31, _, [], am_wA (am_nA (sA μ m l) 2 x1.toNatClampNeg) (am_n (sA μ m l)) (am_cp (am_A (am_nA (sA μ m l) 2 x1.toNatClampNeg) a) (am_A (am_nA (sA μ m l) 2 x1.toNatClampNeg) (am_n (sA μ m l))) (Int32.ofInt 0).toNatClampNeg (Int32.ofInt 0).toNatClampNeg (if x1 < Int32.ofNat len then x1 else Int32.ofNat len).toNatClampNeg)) _
  rw [eif, hx5, e0, hx2, en]
  have ew : am_wA (am_nA (sA μ m l) 2 N') (am_n μ) (am_cp (am_A (am_nA (sA μ m l) 2 N') a) (am_A (am_nA (sA μ m l) 2 N') (am_n μ)) 0 0 len) = sA (am_nA μ 2 N') (nwM (nwM m (am_n μ) (fun _ => 0)) (am_n μ) (fun j => if j < (len : Int) then m a j else 0)) (nwM l (am_n μ) (fun _ => 0)) := by
    rw [nA_sA]
    refine wA_sA _ _ _ _ _ _ (fun j => ?_)
    unfold am_cp
    by_cases q : j < len
    · rw [if_pos ⟨Nat.zero_le _, by omega⟩, if_pos (by omega)]
      show zI (nwM m (am_n μ) (fun _ => 0) a ((0 + (j - 0) : Nat) : Int)) = zI (m a (j : Int))
      rw [nwM_o ha]
      congr 2
      omega
    · rw [if_neg (by omega), if_neg (by omega)]
      show zI (nwM m (am_n μ) (fun _ => 0) (am_n μ) (j : Int)) = zI 0
      rw [nwM_s]
  rw [ew]
  have e2 : nwM (nwM m (am_n μ) (fun _ => 0)) (am_n μ) (fun j => if j < (len : Int) then m a j else 0) = nwM m (am_n μ) (fun j => if j < (len : Int) then m a j else 0) := by
    funext c j
    unfold nwM
    split
    · rfl
    · rfl
  rw [e2]
  exact b292_31 ⟨rfl, rfl⟩
/-- a new row, and where it is kept -/
def gs (μ : am_Mem) (f N : Nat) : am_Mem := am_pR (am_nA μ 2 N) 84 f (am_n μ)
section CGS
variable {μ : am_Mem} {f N : Nat}
theorem gs_n : am_n (gs μ f N) = am_n μ + 1 := rfl
theorem gs_sl : am_sl (gs μ f N) = am_sl μ + N := rfl
theorem gs_k {c : Nat} (h : ¬ c = am_n μ) : am_kd (gs μ f N) c = am_kd μ c := kd_nA h
theorem gs_kn : am_kd (gs μ f N) (am_n μ) = (2, N) := kd_nS
theorem gs_F {c j : Nat} (h : ¬ (c = 84 ∧ j = f)) : am_F (gs μ f N) c j = am_F μ c j := by
  show am_u2 (am_F μ) 84 f (am_n μ) c j = _
  unfold am_u2
  split
  · rename_i q
    first
    | exact absurd q h
    | exact absurd (by simpa using q) h
  · rfl
theorem gs_Fs : am_F (gs μ f N) 84 f = am_n μ := by
  show am_u2 (am_F μ) 84 f (am_n μ) 84 f = _
  unfold am_u2
  simp
theorem nF_84 : ∀ f, f < 9 → 1 ≤ f → ∀ j, j < 99 → ¬ ((cFl.getD j (0, 0, 0)).1 = 84 ∧ (cFl.getD j (0, 0, 0)).2.1 = f) := by decide
theorem gs_C (hf : 1 ≤ f ∧ f < 9) (hn : 125 ≤ am_n μ) (H : CS μ) : CS (gs μ f N) := by
  refine ⟨fun i hi => ?_, fun j hj => ?_⟩
  · rw [gs_k (by omega)]
    exact H.1 i hi
  · rw [gs_F (nF_84 f hf.2 hf.1 j hj)]
    exact H.2 j hj
end CGS
/-- all rows anew -/
def grM (μ : am_Mem) : am_Mem := gs (gs (gs (gs (gs (gs (gs (gs μ 1 58192) 2 58192) 3 232768) 4 58192) 5 58192) 6 58192) 7 58192) 8 131072
theorem grM_n (μ : am_Mem) : am_n (grM μ) = am_n μ + 8 := rfl
theorem grM_sl (μ : am_Mem) : am_sl (grM μ) = am_sl μ + 712992 := by
  show am_sl μ + 58192 + 58192 + 232768 + 58192 + 58192 + 58192 + 58192 + 131072 = _
  omega
theorem grM_k {μ : am_Mem} {c : Nat} (h : c < am_n μ) : am_kd (grM μ) c = am_kd μ c := by
  unfold grM
  rw [gs_k (by simp only [gs_n]; omega), gs_k (by simp only [gs_n]; omega), gs_k (by simp only [gs_n]; omega), gs_k (by simp only [gs_n]; omega), gs_k (by simp only [gs_n]; omega), gs_k (by simp only [gs_n]; omega), gs_k (by simp only [gs_n]; omega), gs_k (by omega)]
theorem grM_F {μ : am_Mem} {c j : Nat} (h : ¬ (c = 84 ∧ 1 ≤ j ∧ j ≤ 8)) : am_F (grM μ) c j = am_F μ c j := by
  unfold grM
  rw [gs_F (by omega), gs_F (by omega), gs_F (by omega), gs_F (by omega), gs_F (by omega), gs_F (by omega), gs_F (by omega), gs_F (by omega)]
theorem grM_C {μ : am_Mem} (hn : 125 ≤ am_n μ) (H : CS μ) : CS (grM μ) := by
  unfold grM
  exact gs_C (by decide) (by simp only [gs_n]; omega) (gs_C (by decide) (by simp only [gs_n]; omega) (gs_C (by decide) (by simp only [gs_n]; omega) (gs_C (by decide) (by simp only [gs_n]; omega) (gs_C (by decide) (by simp only [gs_n]; omega) (gs_C (by decide) (by simp only [gs_n]; omega) (gs_C (by decide) (by simp only [gs_n]; omega) (gs_C (by decide) hn H)))))))
theorem grM_T (μ : am_Mem) : TS (grM μ) (am_n μ) 58192 232768 131072 := by
  unfold grM
  refine ⟨⟨?_, ?_, ?_, ?_, ?_, ?_, ?_, ?_⟩, ?_, ?_, ?_, ?_, ?_, ?_, ?_, ?_⟩
  · rw [gs_F (by decide), gs_F (by decide), gs_F (by decide), gs_F (by decide), gs_F (by decide), gs_F (by decide), gs_F (by decide), gs_Fs]
  · rw [gs_F (by decide), gs_F (by decide), gs_F (by decide), gs_F (by decide), gs_F (by decide), gs_F (by decide), gs_Fs]; rfl
  · rw [gs_F (by decide), gs_F (by decide), gs_F (by decide), gs_F (by decide), gs_F (by decide), gs_Fs]; rfl
  · rw [gs_F (by decide), gs_F (by decide), gs_F (by decide), gs_F (by decide), gs_Fs]; rfl
  · rw [gs_F (by decide), gs_F (by decide), gs_F (by decide), gs_Fs]; rfl
  · rw [gs_F (by decide), gs_F (by decide), gs_Fs]; rfl
  · rw [gs_F (by decide), gs_Fs]; rfl
  · rw [gs_Fs]; rfl
  · rw [gs_k (by simp only [gs_n]; omega), gs_k (by simp only [gs_n]; omega), gs_k (by simp only [gs_n]; omega), gs_k (by simp only [gs_n]; omega), gs_k (by simp only [gs_n]; omega), gs_k (by simp only [gs_n]; omega), gs_k (by simp only [gs_n]; omega), gs_kn]
  · rw [gs_k (by simp only [gs_n]; omega), gs_k (by simp only [gs_n]; omega), gs_k (by simp only [gs_n]; omega), gs_k (by simp only [gs_n]; omega), gs_k (by simp only [gs_n]; omega), gs_k (by simp only [gs_n]; omega)]; exact gs_kn
  · rw [gs_k (by simp only [gs_n]; omega), gs_k (by simp only [gs_n]; omega), gs_k (by simp only [gs_n]; omega), gs_k (by simp only [gs_n]; omega), gs_k (by simp only [gs_n]; omega)]; exact gs_kn
  · rw [gs_k (by simp only [gs_n]; omega), gs_k (by simp only [gs_n]; omega), gs_k (by simp only [gs_n]; omega), gs_k (by simp only [gs_n]; omega)]; exact gs_kn
  · rw [gs_k (by simp only [gs_n]; omega), gs_k (by simp only [gs_n]; omega), gs_k (by simp only [gs_n]; omega)]; exact gs_kn
  · rw [gs_k (by simp only [gs_n]; omega), gs_k (by simp only [gs_n]; omega)]; exact gs_kn
  · rw [gs_k (by simp only [gs_n]; omega)]; exact gs_kn
  · exact gs_kn
