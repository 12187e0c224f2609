/-! ===== the reference's read, whole ===== -/
section RRW
variable {d : Nat} {μ : am_Mem} {l : PM} {Q : Option Value ⊕ Nat → am_Mem → Prop}
/-- what a read without fault may write -/
abbrev RdG (c : Nat) (j : Int) : Prop := RdR c j ∨ WFr c j ∨ c = 127 ∨ (c = 125 ∧ (j = 4 ∨ j = 6 ∨ j = 72 ∨ j = 75 ∨ j = 81))
theorem r_read {m : PM} (H : RS μ) (hn : 0 ≤ m 125 2 ∧ m 125 2 ≤ 2000) (hn6 : 0 ≤ m 125 6 ∧ m 125 6 ≤ 2000) (ht : ∀ j, 0 ≤ m 126 j ∧ m 126 j ≤ 127) (ht7 : ∀ j, 0 ≤ m 127 j ∧ m 127 j ≤ 127) (ht8 : ∀ j, 0 ≤ m 128 j ∧ m 128 j ≤ 127) (r5 : ∀ j, iR (m 165 j)) (r1 : ∀ j, iR (m 151 j)) (r7 : ∀ j, iR (m 175 j))
    (hb : ∀ m' : PM, (∀ c j, ¬ RdR c j → m' c j = m c j) → m' 125 0 = 0 → m' 125 3 = (vd (m 126) (m 125 2)).2 → ¬ (vd (m 126) (m 125 2)).1 = 0 → (∀ j, 0 ≤ m' 128 j ∧ m' 128 j ≤ 127) → (∀ rs, pSh (m 127) (m 125 6) 60 0 [] = .inr rs → RV m' rs ∧ nmL m' = LsE (m 127) (m 125 6)) → Q (.inl (some (.int (zI (vd (m 126) (m 125 2)).1)))) (sA μ m' l))
    (hg : ∀ (rs : List Rul) (m' : PM), pSh (m 126) (m 125 2) 60 0 [] = .inr rs → (chF rs).1 = 0 → (∀ c j, ¬ RdG c j → m' c j = m c j) → m' 125 0 = 0 → m' 125 3 = -1 → m' 125 4 = 1 → m' 125 6 = m 125 2 → (m' 125 72 = 0 ∧ m' 125 75 = 0 ∧ m' 125 81 = 0) → (∀ j, 0 ≤ j → j < m 125 2 → m' 127 j = m 126 j) → (∀ j, 0 ≤ m' 127 j ∧ m' 127 j ≤ 127) → (∀ j, 0 ≤ m' 128 j ∧ m' 128 j ≤ 127) → RV m' rs → nmL m' = LsE (m 126) (m 125 2) → RlT m' (rlS rs) → (∀ j, iR (m' 165 j)) → (∀ j, iR (m' 151 j)) → (∀ j, iR (m' 175 j)) → Q (.inl (some (.int (zI 0)))) (sA μ m' l)) :
    Wp (d + 9) 153 (0, [some (.ref 125), none, none], [], sA μ m l) Q := by
  refine r_read1 H hn hn6 ht ht7 ht8 hb (fun rs m' h1 h2 fr e0 e3 e4 e6 t7 q7 q8 hv hL => ?_)
  have hl : OkL rs := pSh_ow hn 60 0 [] rs (fun ru hru => absurd hru List.not_mem_nil) h1
  refine ⟨_, _, c_findRoles (d := d + 5) H hv h2 hl (fun j => by rw [fr _ _ (by omega)]; exact r5 j) (fun j => by rw [fr _ _ (by omega)]; exact r1 j) (fun j => by rw [fr _ _ (by omega)]; exact r7 j), fun μ' hp => ?_, fun _ _ z => z.elim⟩
  obtain ⟨m2, rfl, a1, a2, a3, a4, a5⟩ := hp
  refine R153_99 H ?_
  rintro m3 e
  have f3 : ∀ c j, ¬ (c = 125 ∧ (j = 72 ∨ j = 75 ∨ j = 81)) → m3 c j = m2 c j := fun c j q => by rw [e, up_o (by omega), up_o (by omega), up_o (by omega)]
  have f31 : ∀ c j, ¬ (WFr c j ∨ (c = 125 ∧ (j = 72 ∨ j = 75 ∨ j = 81))) → m3 c j = m' c j := fun c j q => by rw [f3 c j (by omega)]; exact a2 c j (by omega)
  refine hg rs m3 h1 h2 (fun c j q => by rw [f31 c j (by omega)]; exact fr c j (by omega)) (by rw [f31 _ _ (by omega)]; exact e0) (by rw [f31 _ _ (by omega)]; exact e3) (by rw [f31 _ _ (by omega)]; exact e4) (by rw [f31 _ _ (by omega)]; exact e6) ⟨?_, ?_, ?_⟩ (fun j j1 j2 => by rw [f31 _ _ (by omega)]; exact t7 j j1 j2) (fun j => by rw [f31 _ _ (by omega)]; exact q7 j) (fun j => by rw [f31 _ _ (by omega)]; exact q8 j) (RV_cg2 (fun c j q => f31 c j (by omega)) hv) (by rw [nmL_cg (f31 _ _ (by omega)) (fun j => f31 _ _ (by omega)) (fun j => f31 _ _ (by omega))]; exact hL) ⟨by rw [f3 _ _ (by omega)]; exact a1.1, a1.2.1, fun k hk i hi => by rw [f3 _ _ (by omega)]; exact a1.2.2 k hk i hi⟩ (fun j => by rw [f3 _ _ (by omega)]; exact a3 j) (fun j => by rw [f3 _ _ (by omega)]; exact a4 j) (fun j => by rw [f3 _ _ (by omega)]; exact a5 j)
  · rw [e, up_i (by decide), up_i (by decide), up_s]
  · rw [e, up_i (by decide), up_s]
  · rw [e, up_s]
end RRW
