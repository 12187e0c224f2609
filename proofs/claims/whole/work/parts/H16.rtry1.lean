/-! ===== the reference: tryPass whole; a rule is taken ===== -/
def noB : Nat → Option (List Cd) := fun _ => none
/-- a rule's positive conditions -/
def posR (ru : Rul) : List Atm := (psC ru.2).map (fun c => c.2)
theorem posR_g {ru : Rul} {i : Nat} (h : i < (psC ru.2).length) : (posR ru).getD i ([], []) = ((psC ru.2).getD i cnD).2 := by
  unfold posR
  rw [List.getD_eq_getElem?_getD, List.getD_eq_getElem?_getD, List.getElem?_map, List.getElem?_eq_getElem h]
  rfl
theorem posR_l (ru : Rul) : (posR ru).length = (psC ru.2).length := List.length_map _
section RP3
variable {d : Nat} {μ : am_Mem} {l : PM} {T C0 k : Nat} {W : Int → Nat} {rs : List Rul} {B S : List Atm} {lev : List Int → Nat} {pos : List Atm} {ps pf : Int}
theorem c_tryPass {m : PM} {r F0 old : Nat} {Q : Option Value ⊕ Nat → am_Mem → Prop} (H : RS μ) (hr : r < rs.length) (hL : LvO lev rs) (hC : C0 + 85000 ≤ 130000) (hk : k ≤ lev (rs.getD r ruD).1.1) (hneg : ∀ c, c ∈ (rs.getD r ruD).2 → c.1 = 2 → lev c.2.1 < k) (hWd : ∀ c, c ∈ (rs.getD r ruD).2 → c.1 < 3 → ∀ x, nX m x c.2.1 → W x = c.2.2.length) (hWh : ∀ x, nX m x (rs.getD r ruD).1.1 → W x = (rs.getD r ruD).1.2.length) (hF : RuF (rs.getD r ruD) pos) (hF0 : F0 ≤ S.length) (hold : old ≤ 1000) (hps : -1 ≤ ps ∧ ps < 100) (hpf : 0 ≤ ps → ChO S (pos.getD ps.toNat ([], [])).1 pf) (hPF : 0 ≤ ps → ∀ a : Nat, a < F0 → (S.getD a ([], [])).1 = (pos.getD ps.toNat ([], [])).1 → old ≤ a → 0 ≤ pf ∧ pf ≤ (a : Int)) (hP0 : PosM W m pos) (e68 : m 125 68 = ps) (e69 : m 125 69 = pf) (hE : EvS W rs B lev k C0 m T S) (h56 : m 125 56 = 0) (hB : BdL m T 0 noB)
    (hend : ∀ (m' : PM) (T' : Nat) (S' : List Atm) (news' : Int), EvS W rs B lev k C0 m' T' S' → m' 125 56 = 0 → ExS lev k S S' → T ≤ T' → BdL m' T' 0 noB → (∀ c j, ¬ WTp c j → m' c j = m c j) → (∀ β, Gb β → Cmb pos S F0 old ps 0 β → Dn (rs.getD r ruD) S S' β) → news' = bP (S.length < S'.length) → Q (.inl (some (.int (zI news')))) (sA μ m' l))
    (hX : ∀ (m' : PM) (T' : Nat) (S' : List Atm) (news' : Int), (¬ ∃ S', EvG rs B S') → WkR W rs m' T' S' → m' 125 56 = 1 → (news' = 0 ∨ news' = 1) → (∀ c j, ¬ WTp c j → m' c j = m c j) → Q (.inl (some (.int (zI news')))) (sA μ m' l)) :
    Wp (d + 6) 225 (0, [some (.ref 125), some (.int (zI (r : Int))), some (.int (zI (old : Int))), none, none, none], [], sA μ m l) Q := by
  have h9 := (RV_n hE.1.1).2.2.2.1
  refine R225_0 H ⟨_, _, c_begin (d := d + 5) (lv := 0) (ps := ps) (pf := pf) H hP0 h9 e68 hps e69 (by decide), fun μ' hp => ?_, fun _ _ z => z.elim⟩
  obtain ⟨m1, rfl, f1, ch⟩ := hp
  have fr1 : ∀ c j, ¬ WTp c j → m1 c j = m c j := fun c j z => f1 c j (by omega)
  obtain ⟨hv, hI, hU, hLt, hH, hS, h65⟩ := id hE.1
  have hD := hv.2.2.1
  have E1 : EvS W rs B lev k C0 m1 T S := EvS_cg (fun c j z => f1 c j (by omega)) (fun j => by rw [f1 _ _ (by omega)]; exact hI.2.2.1 j) (fun j => by rw [f1 _ _ (by omega)]; exact h65 j) hE
  have tgm : ∀ (u : Nat) (q : List Cd), Tg m u q → Tg m1 u q := fun u q h => TgR_cg (T := u + 1) (f1 _ _ (by omega)) (fun i => f1 _ _ (by omega)) (fun i => f1 _ _ (by omega)) (fun t _ => ⟨f1 _ _ (by omega), f1 _ _ (by omega), fun k _ => f1 _ _ (by omega)⟩) _ u q (by omega) h
  have first : ∀ hl : 0 < pos.length, ¬ ((0 : Nat) : Int) = ps → m1 162 ((0 : Nat) : Int) = fsF (m 154) (m 135 (m 161 ((0 : Nat) : Int))) S.length ∧ nX m (m 135 (m 161 ((0 : Nat) : Int))) (pos.getD 0 ([], [])).1 := fun hl hne => by
    have z := ch hl
    rw [if_neg hne] at z
    obtain ⟨_, nx1, _, _⟩ := hP0.2.2 0 hl
    refine ⟨?_, nx1⟩
    rw [z]
    exact (hH.2.2.2.1 _ nx1.1 nx1.2.1).2.1
  have chO : 0 < pos.length → ChO S (pos.getD 0 ([], [])).1 (m1 162 ((0 : Nat) : Int)) := fun hl => by
    by_cases hne : ((0 : Nat) : Int) = ps
    · have z := ch hl
      rw [if_pos hne] at z
      rw [z]
      have z2 := hpf (by omega)
      rw [show ps.toNat = 0 by omega] at z2
      exact z2
    · obtain ⟨q1, q2⟩ := first hl hne
      rw [q1]
      rcases fsF_sp (m 154) (m 135 (m 161 ((0 : Nat) : Int))) S.length with ⟨e, _⟩ | ⟨c', e, c2', c3, _⟩
      · exact Or.inl e
      · obtain ⟨n1, _, _⟩ := hS c' c2'
        rw [c3] at n1
        exact Or.inr ⟨c', e, c2', nX_fun n1 q2⟩
  have rq : ∀ β, Cmb pos S F0 old ps 0 β → Rq pos S F0 old ps 0 (m1 162 ((0 : Nat) : Int)) β := fun β hc hl => by
    refine ⟨fun i hi1 hi2 => hc i (by omega) hi2, ?_⟩
    obtain ⟨a2, q1, q2, q3, q4⟩ := hc 0 (Nat.le_refl _) hl
    have q0 : 0 ≤ m1 162 ((0 : Nat) : Int) ∧ m1 162 ((0 : Nat) : Int) ≤ (a2 : Int) := by
      by_cases hne : ((0 : Nat) : Int) = ps
      · have zz := ch hl
        rw [if_pos hne] at zz
        rw [zz]
        refine hPF (by omega) a2 q1 ?_ (q4 hne)
        rw [q2, show ps.toNat = 0 by omega]
        rfl
      · obtain ⟨w1', w2'⟩ := first hl hne
        rw [w1']
        have hm2 : a2 < S.length := by omega
        obtain ⟨n1, _, _⟩ := hS a2 hm2
        rw [q2] at n1
        have er : m 154 (a2 : Int) = m 135 (m 161 ((0 : Nat) : Int)) := nX_in2 hD n1 w2'
        rcases fsF_sp (m 154) (m 135 (m 161 ((0 : Nat) : Int))) S.length with ⟨_, e⟩ | ⟨c', e, _, _, e2'⟩
        · exact absurd er (e a2 hm2)
        · by_cases zz : a2 < c'
          · exact absurd er (e2' a2 zz)
          · omega
    exact ⟨a2, q1, q0.1, q0.2, q2, q3⟩
  have B1 : BdL m1 T ((0 : Nat) : Int) noB := fun v hv => by
    obtain ⟨z1, z2⟩ := hB v hv
    rw [f1 164 _ (by omega)]
    exact ⟨z1, fun q e => nomatch e⟩
  have main := tp_main (d := d) (l := l) (m0 := m) (S0 := S) (F0 := F0) (old := old) (Q := Q) H hr hL hC hk hneg hWd hWh hF hF0 hold hps hpf hPF hP0 e68 e69 hX pos.length 0 (by omega) m1 T S noB 0 none E1 (by rw [f1 _ _ (by omega)]; exact h56) fr1 ExS_r B1 ⟨fun i hi => absurd hi (Nat.not_lt_zero i), fun β _ _ i hi => absurd hi (Nat.not_lt_zero i), fun v hv => absurd rfl hv⟩ chO (bP_0 (fun z => absurd z (Nat.lt_irrefl _))).symm (fun m' T' S' news' o5' E' e56' x' t' tg' rt' fr' dn' n' => ?_)
  · exact main
  · have n01 : news' = 0 ∨ news' = 1 := by rw [n']; exact bP_b _
    refine R225_10 H ⟨⟨by decide, by decide⟩, fun _ => ⟨n01, hend m' T' S' news' E' e56' x' t' (fun v hv => ⟨fun _ => rt'.2.1 v hv rfl, fun q e => nomatch e⟩) fr' (fun β hβ hc => dn' β hβ (fun v q e => nomatch e) (rq β hc)) n'⟩, fun z => absurd (by decide) z⟩
/-- the rule's positive conditions lie in the row -/
theorem PosM_take {m m' : PM} {r : Nat} (hv : RV m rs) (hr : r < rs.length) (hT : TkP m m' (m 132 r) (rs.getD r ruD).2 (rs.getD r ruD).2.length) (fr : ∀ c j, ¬ ((c = 125 ∧ j = 58) ∨ c = 161 ∨ c = 163 ∨ c = 164) → m' c j = m c j) (hWd : ∀ c, c ∈ (rs.getD r ruD).2 → c.1 < 3 → ∀ x, nX m x c.2.1 → W x = c.2.2.length) : PosM W m' (posR (rs.getD r ruD)) := by
  obtain ⟨t1, t2⟩ := hT
  rw [List.take_length] at t1 t2
  have hok : (rs.getD r ruD).2.length ≤ 8 := (hv.2.2.2.2.2 _ ((mem_gD rs ruD _).mpr ⟨r, hr, rfl⟩)).2.1
  have hl8 := psot_len (rs.getD r ruD).2
  refine ⟨by rw [t1, posR_l], by rw [posR_l]; omega, fun i hi => ?_⟩
  rw [posR_l] at hi
  obtain ⟨j', j1, j2, j3⟩ := t2 i hi
  obtain ⟨c1, c2, c3, _, _, c6, _, _, c9⟩ := RV_cond hv hr j1
  have hp := psC_mem.mp ((mem_gD (psC (rs.getD r ruD).2) cnD _).mpr ⟨i, hi, rfl⟩)
  rw [j2] at c1 c6 c9
  rw [posR_g hi, j3, fr 135 _ (by omega)]
  have hx := c6 (by rw [hp.2]; decide)
  refine ⟨AtN_cg (fun c j z => fr c j (by omega)) (AtR_N ⟨by omega, by omega⟩ (RV_n hv).2.2.2.2 c9), nX_cg (fr _ _ (by omega)) (fun i => fr _ _ (by omega)) (fun i => fr _ _ (by omega)) hx, hWd _ hp.1 (by rw [hp.2]; decide) _ hx, fun p hp' c hc h5 => ?_⟩
  exact (wfT_ok 11 p (c1.1.2 p hp') c hc h5).2
end RP3
