/-! ===== fill; the class's Names.clear ===== -/
/-- a row filled up to k -/
def flM (m : PM) (ar : Nat) (k v : Int) : PM := fun x j => if x = ar ∧ 0 ≤ j ∧ j < k then v else m x j
theorem flM_o {m : PM} {ar x : Nat} {k v j : Int} (h : ¬ (x = ar ∧ 0 ≤ j ∧ j < k)) : flM m ar k v x j = m x j := if_neg h
theorem flM_i {m : PM} {ar : Nat} {k v j : Int} (h : 0 ≤ j ∧ j < k) : flM m ar k v ar j = v := if_pos ⟨rfl, h⟩
theorem flM_s {m : PM} {ar : Nat} {k v : Int} (hk : 0 ≤ k) : up (flM m ar k v) ar k v = flM m ar (k + 1) v := by
  funext x j
  unfold flM
  rw [up_e]
  by_cases h : x = ar ∧ j = k
  · rw [if_pos h, if_pos (by omega)]
  · rw [if_neg h]
    by_cases h2 : x = ar ∧ 0 ≤ j ∧ j < k
    · rw [if_pos h2, if_pos (by omega)]
    · rw [if_neg h2, if_neg (by omega)]
section FIL
variable {d : Nat} {Q : Option Value ⊕ Nat → am_Mem → Prop} {μ : am_Mem} {m l : PM} {ar n1 : Nat} {v : Int}
theorem fill_5 (hk1 : am_kd μ ar = (2, n1)) (h1 : n1 ≤ 2000000) (hq : Q (.inl none) (sA μ (flM m ar n1 v) l)) : ∀ (r k : Nat), k + r = n1 → Wp d 290 (5, [some (.ref ar), some (.int (zI v)), some (.int (zI k)), some (.int (zI (n1 : Int)))], [], sA μ (flM m ar k v) l) Q := by
  intro r
  induction r with
  | zero =>
    intro k hk
    obtain rfl : k = n1 := by omega
    exact K290_5 hk1 h1 ⟨by omega, by omega, fun _ => hq, fun z => absurd (Int.le_refl _) z⟩
  | succ r ih =>
    intro k hk
    refine K290_5 hk1 h1 ⟨by omega, by omega, fun z => absurd z (by omega), fun _ => ⟨by omega, ?_⟩⟩
    rintro m1 rfl
    rw [flM_s (by omega)]
    have e : ((k : Int) + 1) = ((k + 1 : Nat) : Int) := by omega
    rw [e]
    exact ih (k + 1) (by omega)
theorem k_fill (hk1 : am_kd μ ar = (2, n1)) (h1 : n1 ≤ 2000000) : Wp d 290 (0, [some (.ref ar), some (.int (zI v)), none, none], [], sA μ m l) (pV (fun μ' => μ' = sA μ (flM m ar n1 v) l) noX) := by
  refine K290_0 hk1 h1 ?_
  have := fill_5 (d := d) (l := l) (m := m) (v := v) (Q := pV (fun μ' => μ' = sA μ (flM m ar n1 v) l) noX) hk1 h1 rfl n1 0 (by omega)
  have e : flM m ar ((0 : Nat) : Int) v = m := by
    funext x j
    exact flM_o (by omega)
  rw [e] at this
  exact this
end FIL
/-- the signs of the class's words, a blank behind each -/
def cwL : List Int := [114, 111, 108, 101, 32, 105, 110, 105, 116, 32, 116, 114, 117, 101, 32, 110, 101, 120, 116, 32, 100, 111, 101, 115, 32, 108, 101, 103, 97, 108, 32, 103, 111, 97, 108, 32, 116, 101, 114, 109, 105, 110, 97, 108, 32, 110, 111, 116, 32, 100, 105, 115, 116, 105, 110, 99, 116, 32]
/-- the words, in the class's order -/
def cwW : List (List Int) := [[114, 111, 108, 101], [105, 110, 105, 116], [116, 114, 117, 101], [110, 101, 120, 116], [100, 111, 101, 115], [108, 101, 103, 97, 108], [103, 111, 97, 108], [116, 101, 114, 109, 105, 110, 97, 108], [110, 111, 116], [100, 105, 115, 116, 105, 110, 99, 116]]
def cwSl (b k : Nat) : List Int := (List.range k).map fun j => cwL.getD (b + j) 0
/-- words read, and where the one at hand begins, behind i signs -/
def cwIx : Nat → List (List Int) × Nat
  | 0 => ([], 0)
  | i + 1 => if cwL.getD i 0 = 32 then ((cwIx i).1 ++ [cwSl (cwIx i).2 (i - (cwIx i).2)], i + 1) else cwIx i
theorem cw_ok : ∀ i, i < 58 → (cwIx i).2 ≤ i ∧ (cwIx i).1.length ≤ 10 ∧ (cwIx i).1.flatten.length ≤ 58 ∧ (cwL.getD i 0 = 32 → ¬ cwSl (cwIx i).2 (i - (cwIx i).2) ∈ (cwIx i).1) ∧ 0 ≤ cwL.getD i 0 ∧ cwL.getD i 0 ≤ 127 := by decide +kernel
theorem cw_end : (cwIx 58).1 = cwW ∧ cwW.flatten.length = 48 ∧ cwW.length = 10 := by decide +kernel
section CLR
variable {d : Nat} {Q : Option Value ⊕ Nat → am_Mem → Prop} {μ : am_Mem} {l : PM} {a : Nat}
theorem cw_sl {m : PM} (hw : ∀ j : Nat, j < 58 → m (a + 1) j = cwL.getD j 0) {b k : Nat} (h : b + k ≤ 58) : sl (m (a + 1)) b k = cwSl b k := by
  unfold sl cwSl
  apply List.map_congr_left
  intro j hj
  have := List.mem_range.mp hj
  have e : ((b : Int) + (j : Int)) = ((b + j : Nat) : Int) := by omega
  rw [e]
  exact hw _ (by omega)
theorem clear_17 (H : CS μ) (ha : a = 23 ∨ a = 43) {m0 : PM} (hq : ∀ m' : PM, NcI m' a 10 → (∀ k, k < 10 → cn m' a k = cwW.getD k []) → m' (a + 3) 10 = 48 → (∀ x j, ¬ ((x = a ∧ j = 4) ∨ x = a + 2 ∨ x = a + 3 ∨ x = a + 4) → m' x j = m0 x j) → m' (a + 3) 0 = 0 → Q (.inl none) (sA μ m' l)) :
    ∀ (r i : Nat) (m : PM), i + r = 58 → NcI m a (cwIx i).1.length → (∀ k, k < (cwIx i).1.length → cn m a k = (cwIx i).1.getD k []) → m (a + 3) ((cwIx i).1.length : Int) = ((cwIx i).1.flatten.length : Int) → m (a + 3) 0 = 0 → (∀ j : Nat, j < 58 → m (a + 1) j = cwL.getD j 0) → (∀ j, 0 ≤ m (a + 1) j ∧ m (a + 1) j ≤ 127) → (∀ x j, ¬ ((x = a ∧ j = 4) ∨ x = a + 2 ∨ x = a + 3 ∨ x = a + 4) → m x j = m0 x j) → Wp (d + 3) 48 (17, [some (.ref a), some (.int (zI ((cwIx i).2 : Int))), some (.int (zI i))], [], sA μ m l) Q := by
  intro r
  induction r with
  | zero =>
    intro i m hr hI hc hf h0 hw hw2 hs
    obtain rfl : i = 58 := by omega
    obtain ⟨e1, e2, e3⟩ := cw_end
    rw [e1, e3] at hI hc
    rw [e1, e2, e3] at hf
    exact K48_17 H ha ⟨by omega, fun _ => hq m hI hc hf hs h0, fun z => absurd (by omega) z⟩
  | succ r ih =>
    intro i m hr hI hc hf h0 hw hw2 hs
    have hi : i < 58 := by omega
    obtain ⟨c1, c2, c3, c4, c5, c6⟩ := cw_ok i hi
    have ei : m (a + 1) i = cwL.getD i 0 := hw i hi
    have e : ((i : Int) + 1) = ((i + 1 : Nat) : Int) := by omega
    refine K48_17 H ha ⟨by omega, fun z => absurd z (by omega), fun _ => ⟨by omega, by rw [ei]; omega, fun z => ?_, fun z => ?_⟩⟩
    · have ec : cwIx (i + 1) = cwIx i := if_neg (by rw [← ei]; exact z)
      rw [e]
      have := ih (i + 1) m (by omega)
      rw [ec] at this
      exact this hI hc hf h0 hw hw2 hs
    · have z' : cwL.getD i 0 = 32 := by rw [← ei]; exact Classical.not_not.mp z
      have ec : cwIx (i + 1) = ((cwIx i).1 ++ [cwSl (cwIx i).2 (i - (cwIx i).2)], i + 1) := if_pos z'
      have hno := c4 z'
      generalize hws : (cwIx i).1 = ws at hI hc hf c2 c3 hno ec
      generalize hb : (cwIx i).2 = b at c1 hno ec ⊢
      have hsl := cw_sl (a := a) hw (b := b) (k := i - b) (by omega)
      have hl : ((i : Int) - (b : Int)) = ((i - b : Nat) : Int) := by omega
      rw [hl]
      have hwl : (cwSl b (i - b)).length = i - b := by simp [cwSl]
      refine ⟨fun x μ' => ∃ m', μ' = sA μ m' l ∧ NcI m' a (ws.length + 1) ∧ (∀ k, k < ws.length + 1 → cn m' a k = (ws ++ [cwSl b (i - b)]).getD k []) ∧ m' (a + 3) ((ws.length : Int) + 1) = (ws.flatten.length : Int) + ((i - b : Nat) : Int) ∧ m' (a + 3) 0 = 0 ∧ ∀ x j, ¬ ((x = a ∧ j = 4) ∨ x = a + 2 ∨ x = a + 3 ∨ x = a + 4) → m' x j = m x j, noX, ?_, fun x μ' hp => ?_, fun _ _ y => y.elim⟩
      · refine k_intern (n1 := 58) (tx := a + 1) (c := ws.length) H ha (Or.inr rfl) (cKa1 H ha) (by omega) hI (by omega) (by omega) hw2 (by rw [hf]; omega) (fun k hk hcn => ?_) (fun _ t0 mm z0 zm ep hz hnz => ?_)
        · exfalso
          rw [hc k hk, hsl] at hcn
          refine hno ?_
          rw [← hcn]
          rw [List.getD_eq_getElem?_getD, List.getElem?_eq_getElem hk]
          exact List.getElem_mem hk
        · rw [hsl] at ep ⊢
          obtain ⟨d1, d2, d3, d4, d5⟩ := caN_I (t0 := t0) (mm := mm) (w := cwSl b (i - b)) hI (by omega) (by rw [hf, hwl]; omega) (fun j hj => by
            rw [← hsl] at hj ⊢
            rw [sl_len] at hj
            rw [sl_get _ _ _ _ hj]
            exact hw2 _) z0 zm ep hz hnz
          refine ⟨_, rfl, d1, fun k hk => ?_, by rw [d5, hf, hwl], ?_, d4⟩
          · by_cases y : k < ws.length
            · rw [d2 k y, hc k y]
              simp [List.getD_eq_getElem?_getD, List.getElem?_append_left y]
            · have : k = ws.length := by omega
              rw [this, d3]
              simp [List.getD_eq_getElem?_getD]
          · have g1 : m a 4 = ws.length := hI.1.1
            unfold caN
            rw [up_c (by omega), up_c (by omega), up_i (by rw [g1]; omega), upL_o _ _ _ (Or.inl (by omega))]
            exact h0
      · obtain ⟨m', rfl, n1', n2, n3, n4, n5⟩ := hp
        have hk49 : ∀ y : Int32, Wp (d + 3) 48 (49, [some (.ref a), some (.int (zI (b : Int))), some (.int (zI i))], [.int y], sA μ m' l) Q := by
          intro y
          have := K48_49 (d := d) (Q := Q) (l := l) (m := m') (x1 := (b : Int)) (x2 := (i : Int)) (s0 := y.toInt) H ha ?_
          · rw [zI_rev] at this
            exact this
          · rw [e]
            have hh := ih (i + 1) m' (by omega)
            rw [ec] at hh
            have hlen : (ws ++ [cwSl b (i - b)]).length = ws.length + 1 := by simp
            have hfl : (ws ++ [cwSl b (i - b)]).flatten.length = ws.flatten.length + (i - b) := by simp [hwl]
            dsimp only at hh
            rw [hlen, hfl] at hh
            have el : ((ws.length + 1 : Nat) : Int) = (ws.length : Int) + 1 := by omega
            rw [el] at hh
            refine hh n1' n2 (by rw [n3]; omega) n4 (fun j hj => by rw [n5 _ _ (by omega)]; exact hw j hj) (fun j => by rw [n5 _ _ (by omega)]; exact hw2 j) (fun x' j q => by rw [n5 x' j q, hs x' j q])
        exact hk49 x
end CLR
