/-! ===== the reference's terms: spot, isTerm ===== -/
theorem zAnd_r18 (x : Int) : ∃ t : Nat, t < 262144 ∧ zAnd x 262143 = (t : Int) := by
  obtain ⟨t, h1, h2⟩ := pk_andE (zI x) (m := zI 262143) 18 (by decide)
  have h1' : t < 262144 := h1
  refine ⟨t, h1', ?_⟩
  unfold zAnd
  rw [h2, nI_zI, zI_toInt (by omega)]
theorem zAnd_n18 (q : Nat) (h : q < 262144) : zAnd ((q : Int) + 1) 262143 = (((q + 1) % 262144 : Nat) : Int) := by
  have ez : ((q : Int) + 1) = ((q + 1 : Nat) : Int) := by omega
  rw [ez]
  show ((zI ((q + 1 : Nat) : Int)).toBitVec &&& (zI 262143).toBitVec).toInt = _
  have e : ((zI ((q + 1 : Nat) : Int)).toBitVec &&& (zI 262143).toBitVec).toNat = (q + 1) % 262144 := by
    rw [BitVec.toNat_and, zI_bv (by omega), show (zI 262143).toBitVec.toNat = 2 ^ 18 - 1 by decide]
    exact Nat.and_two_pow_sub_one_eq_mod (q + 1) 18
  have hl : (q + 1) % 262144 < 262144 := Nat.mod_lt _ (by decide)
  rw [BitVec.toInt_eq_toNat_of_lt (by rw [e]; omega), e]
/-- the sum of a term's name and parts -/
def hsT (x : Int) (c : Nat) (ps : List Int) : Int := ps.foldl (fun h p => h * 1000003 + p) (x * 31 + (c : Int))
/-- the place where a term's way begins -/
def spT (x : Int) (ps : List Int) : Int := zAnd (zXor (hsT x ps.length ps) (zUsh (hsT x ps.length ps) 15)) 262143
theorem hsT_snoc (x : Int) (c : Nat) (ps : List Int) (p : Int) : hsT x c (ps ++ [p]) = hsT x c ps * 1000003 + p := by simp [hsT]
section RT1
variable {d : Nat} {μ : am_Mem} {m l : PM} {Q : Option Value ⊕ Nat → am_Mem → Prop} {x b : Int} {c : Nat}
theorem sp_11 (H : RS μ) (hc : c ≤ 4) (hb : 0 ≤ b ∧ b + c ≤ 520000) (hq : Q (.inl (some (.int (zI (spT x (sl (m 151) b c)))))) (sA μ m l)) : ∀ (f j : Nat), j + f = c → Wp d 206 (11, [some (.ref 125), some (.int (zI x)), some (.int (zI (c : Int))), some (.int (zI b)), some (.int (zI (hsT x c (sl (m 151) b j)))), some (.int (zI (j : Int)))], [], sA μ m l) Q := by
  intro f
  induction f with
  | zero =>
    intro j hj
    have ej : j = c := by omega
    refine R206_11 H ⟨⟨by omega, by omega⟩, ⟨by omega, by omega⟩, fun _ => ?_, fun q => by omega⟩
    unfold spT at hq
    rw [sl_len] at hq
    rw [ej]
    exact hq
  | succ f ih =>
    intro j hj
    refine R206_11 H ⟨⟨by omega, by omega⟩, ⟨by omega, by omega⟩, fun q => by omega, fun _ => ⟨⟨by omega, by omega⟩, ?_⟩⟩
    rintro v1 rfl
    have z := ih (j + 1) (by omega)
    rw [sl_succ, hsT_snoc] at z
    exact z
theorem c_spot (H : RS μ) (hc : c ≤ 4) (hb : 0 ≤ b ∧ b + c ≤ 520000) : Wp d 206 (0, [some (.ref 125), some (.int (zI x)), some (.int (zI (c : Int))), some (.int (zI b)), none, none], [], sA μ m l) (pI (fun y μ' => y = zI (spT x (sl (m 151) b c)) ∧ μ' = sA μ m l) noX) := by
  refine R206_0 H ?_
  exact sp_11 H hc hb ⟨rfl, rfl⟩ c 0 (by omega)
/-- term t has this name and these parts -/
def isT (m : PM) (t : Int) (x : Int) (ps : List Int) : Prop := m 149 t = x ∧ m 150 t = (ps.length : Int) ∧ sl (m 151) (4 * t) ps.length = ps
theorem it_30 {t : Int} (H : RS μ) (ht : 0 ≤ t ∧ t < 130000) (hc : c ≤ 4) (hb : 0 ≤ b ∧ b + c ≤ 520000) (hR : ∀ j, iR (m 151 j)) {P : Prop} (hP : P → m 149 t = x ∧ m 150 t = (c : Int)) (hP' : m 149 t = x ∧ m 150 t = (c : Int) → P) (hq : ∀ v : Int, v = bP (isT m t x (sl (m 151) b c)) → Q (.inl (some (.int (zI v)))) (sA μ m l)) : ∀ (f j : Nat) (v : Int), j + f = c → v = bP (P ∧ ∀ i : Nat, i < j → m 151 (4 * t + i) = m 151 (b + i)) → Wp d 207 (30, [some (.ref 125), some (.int (zI t)), some (.int (zI x)), some (.int (zI (c : Int))), some (.int (zI b)), some (.int (zI v)), some (.int (zI (j : Int)))], [], sA μ m l) Q := by
  have key : isT m t x (sl (m 151) b c) ↔ (P ∧ ∀ i : Nat, i < c → m 151 (4 * t + i) = m 151 (b + i)) := by
    unfold isT
    rw [sl_len, sl_eq]
    constructor
    · rintro ⟨a1, a2, _, a3⟩
      exact ⟨hP' ⟨a1, a2⟩, a3⟩
    · rintro ⟨a1, a2⟩
      exact ⟨(hP a1).1, (hP a1).2, rfl, a2⟩
  intro f
  induction f with
  | zero =>
    intro j v hj ev
    have ej : j = c := by omega
    have hv : v = 0 ∨ v = 1 := by rw [ev]; exact bP_b _
    refine R207_30 H ⟨⟨by omega, by omega⟩, ⟨by omega, by omega⟩, fun _ => ⟨hv, hq v ?_⟩, fun q => by omega⟩
    rw [ev, ej]
    exact bP_cg key.symm
  | succ f ih =>
    intro j v hj ev
    have hv : v = 0 ∨ v = 1 := by rw [ev]; exact bP_b _
    refine R207_30 H ⟨⟨by omega, by omega⟩, ⟨by omega, by omega⟩, fun q => by omega, fun _ => ⟨⟨by omega, by omega⟩, fun q => ⟨hv, hq v ?_⟩, fun q => ⟨⟨by omega, by omega⟩, ⟨by omega, by omega⟩, hR _, hR _, ?_⟩⟩⟩
    · rw [q] at ev
      have z := bP_z.mp ev.symm
      rw [q]
      exact (bP_0 (fun y => z ⟨(key.mp y).1, fun i hi => (key.mp y).2 i (by omega)⟩)).symm
    · rintro v1 e1
      have p1 := bP_e.mp (show bP (P ∧ ∀ i : Nat, i < j → m 151 (4 * t + i) = m 151 (b + i)) = 1 by rw [← ev]; omega)
      refine ih (j + 1) v1 (by omega) ?_
      by_cases y : m 151 (4 * t + (j : Int)) = m 151 (b + (j : Int))
      · rw [e1, if_neg (fun w => w y)]
        refine (bP_1 ⟨p1.1, fun i hi => ?_⟩).symm
        by_cases w : i = j
        · rw [w]
          exact y
        · exact p1.2 i (by omega)
      · rw [e1, if_pos y]
        exact (bP_0 (fun w => y (w.2 j (by omega)))).symm
theorem c_isTerm {t : Int} (H : RS μ) (ht : 0 ≤ t ∧ t < 130000) (hc : c ≤ 4) (hb : 0 ≤ b ∧ b + c ≤ 520000) (hR : ∀ j, iR (m 151 j)) (hx : iR x) (h9 : iR (m 149 t)) (h0 : iR (m 150 t)) : Wp d 207 (0, [some (.ref 125), some (.int (zI t)), some (.int (zI x)), some (.int (zI (c : Int))), some (.int (zI b)), none, none], [], sA μ m l) (pI (fun y μ' => y = zI (bP (isT m t x (sl (m 151) b c))) ∧ μ' = sA μ m l) noX) := by
  refine R207_0 H ⟨ht, h9, hx, ⟨fun _ => trivial, fun _ => ⟨h0, ⟨by omega, by omega⟩, trivial⟩⟩, ?_⟩
  rintro v1 e1
  refine it_30 (P := m 149 t = x ∧ m 150 t = (c : Int)) H ht hc hb hR id id (fun v ev => ⟨by rw [ev], rfl⟩) c 0 v1 (by omega) ?_
  rw [e1]
  by_cases q1 : m 149 t = x
  · rw [if_neg (fun w => w q1)]
    by_cases q2 : m 150 t = (c : Int)
    · rw [if_neg (fun w => w q2)]
      exact (bP_1 ⟨⟨q1, q2⟩, fun i hi => absurd hi (Nat.not_lt_zero i)⟩).symm
    · rw [if_pos q2]
      exact (bP_0 (fun w => q2 w.1.2)).symm
  · rw [if_pos q1]
    exact (bP_0 (fun w => q1 w.1.1)).symm
end RT1
