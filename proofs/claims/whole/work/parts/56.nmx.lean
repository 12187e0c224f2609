/-! ===== the reference's table of names: what a name's number says ===== -/
/-- x is the number of the name w -/
def nX (m : PM) (x : Int) (w : List Int) : Prop := 0 ≤ x ∧ x < m 125 9 ∧ nmR m x.toNat = w
/-- the words that mean something, in the reference's order -/
def wdL : List (List Int) := [[110, 111, 116], [100, 105, 115, 116, 105, 110, 99, 116], [114, 111, 108, 101], [105, 110, 105, 116], [116, 114, 117, 101], [100, 111, 101, 115], [108, 101, 103, 97, 108], [110, 101, 120, 116], [103, 111, 97, 108], [116, 101, 114, 109, 105, 110, 97, 108]]
def NmD (m : PM) : Prop := (∀ j k : Nat, (j : Int) < m 125 9 → (k : Int) < m 125 9 → nmR m j = nmR m k → j = k) ∧ 10 ≤ m 125 9 ∧ ∀ j : Nat, j < 10 → nmR m j = wdL.getD j []
theorem nmR_cg {m m' : PM} {k : Nat} (h1 : m' 130 k = m 130 k) (h2 : ∀ j : Nat, (j : Int) < m 130 k → m' 129 (16 * (k : Int) + j) = m 129 (16 * (k : Int) + j)) : nmR m' k = nmR m k := by
  unfold nmR
  rw [h1, sl_eq]
  exact ⟨rfl, fun j hj => h2 j (by omega)⟩
section NMX
variable {m : PM} {w : List Int} {N k : Nat}
theorem adN_lt (hN : NmT m N) (hk : k < N) : nmR (adN m w) k = nmR m k := by
  obtain ⟨h1, h2, h3⟩ := hN
  obtain ⟨h4, h5, h6⟩ := h3 k hk
  refine nmR_cg ?_ (fun j hj => ?_)
  · unfold adN
    rw [up_c (by decide), up_i (by omega), upL_o _ _ _ (Or.inl (by decide))]
  · unfold adN
    rw [up_c (by decide), up_c (by decide), upL_o _ _ _ (by omega)]
theorem adN_eq (h1 : m 125 9 = N) : nmR (adN m w) N = w := by
  have e0 : adN m w 130 N = w.length := by unfold adN; rw [up_c (by decide), h1, up_s]
  unfold nmR
  rw [e0]
  apply List.ext_getElem
  · rw [sl_len]; omega
  · intro j hj hj2
    have e1 := sl_get (adN m w 129) (16 * (N : Int)) ((w.length : Int)).toNat j (by omega)
    have e2 : adN m w 129 (16 * (N : Int) + j) = w.getD j 0 := by
      unfold adN
      rw [up_c (by decide), up_c (by decide), h1]
      exact upL_g w m _ j hj2
    rw [e2] at e1
    rw [List.getD_eq_getElem?_getD, List.getD_eq_getElem?_getD, List.getElem?_eq_getElem hj, List.getElem?_eq_getElem hj2] at e1
    exact e1
theorem adN_W (hN : NmT m N) (hw : w.length ≤ 16) (hs : ∀ j : Nat, j < w.length → iR (w.getD j 0)) (hN2 : N < 1099) : NmT (adN m w) (N + 1) := by
  have hN0 := hN
  obtain ⟨h1, h2, h3⟩ := hN
  refine ⟨?_, by omega, fun k hk => ?_⟩
  · unfold adN
    rw [up_s, h1]
    omega
  · by_cases q : k = N
    · subst q
      have e0 : adN m w 130 k = w.length := by unfold adN; rw [up_c (by decide), h1, up_s]
      rw [e0]
      refine ⟨by omega, by omega, fun j hj => ?_⟩
      have e2 : adN m w 129 (16 * (k : Int) + j) = w.getD j 0 := by
        unfold adN
        rw [up_c (by decide), up_c (by decide), h1]
        exact upL_g w m _ j (by omega)
      rw [e2]
      exact hs j (by omega)
    · obtain ⟨h4, h5, h6⟩ := h3 k (by omega)
      have e0 : adN m w 130 k = m 130 k := by unfold adN; rw [up_c (by decide), up_i (by omega), upL_o _ _ _ (Or.inl (by decide))]
      rw [e0]
      refine ⟨h4, h5, fun j hj => ?_⟩
      have e2 : adN m w 129 (16 * (k : Int) + j) = m 129 (16 * (k : Int) + j) := by
        unfold adN
        rw [up_c (by decide), up_c (by decide), upL_o _ _ _ (by omega)]
      rw [e2]
      exact h6 j hj
/-- the number of a name that is there -/
theorem nix_X (hD : NmD m) {x : Int} (h : nX m x w) : (nix (nmR m) w (m 125 9).toNat 0 : Int) = x := by
  obtain ⟨h1, h2, h3⟩ := h
  have hle := nix_le (nmR m) w (m 125 9).toNat 0
  have hlt : nix (nmR m) w (m 125 9).toNat 0 ≤ x.toNat := by
    refine Classical.byContradiction fun q => ?_
    exact nix_no (nmR m) w (m 125 9).toNat 0 x.toNat (Nat.zero_le _) (Nat.lt_of_not_le q) h3
  have his := nix_is (nmR m) w (m 125 9).toNat 0 (by omega)
  have := hD.1 _ _ (by omega) (by omega) (his.trans h3.symm)
  omega
theorem nX_inj (hD : NmD m) {x y : Int} {w' : List Int} (h : nX m x w) (h' : nX m y w') : x = y ↔ w = w' := by
  constructor
  · rintro rfl
    rw [← h.2.2, h'.2.2]
  · rintro rfl
    rw [← nix_X hD h, ← nix_X hD h']
theorem nX_word (hD : NmD m) {j : Nat} (hj : j < 10) : nX m j (wdL.getD j []) := ⟨by omega, by have := hD.2.1; omega, hD.2.2 j hj⟩
end NMX
/-- what nameOf does to the table of names -/
theorem nmM_X {m : PM} {a b : Int} (T : TX m) (hW : NmW m) (hD : NmD m) (hN : m 125 9 < 1099) (g : gN a b) :
    nX (nmM m a b) (nmI m a b) (sl (m 128) a (b - a).toNat) ∧ NmW (nmM m a b) ∧ NmD (nmM m a b) ∧ m 125 9 ≤ nmM m a b 125 9 ∧ nmM m a b 125 9 ≤ m 125 9 + 1 ∧ (∀ x w, nX m x w → nX (nmM m a b) x w) := by
  have h1 := hW.1
  have hle := nix_le (nmR m) (sl (m 128) a (b - a).toNat) (m 125 9).toNat 0
  by_cases q : (nmI m a b : Int) < m 125 9
  · have e : nmM m a b = m := if_pos q
    rw [e]
    refine ⟨⟨by omega, q, ?_⟩, hW, hD, by omega, by omega, fun x w h => h⟩
    have : ((nmI m a b : Nat) : Int).toNat = nmI m a b := by omega
    rw [this]
    exact nix_is (nmR m) _ _ 0 (by unfold nmI at q; omega)
  · have e : nmM m a b = adN m (sl (m 128) a (b - a).toNat) := if_neg q
    have e0 : nmI m a b = (m 125 9).toNat := by unfold nmI at q ⊢; omega
    have e9 : adN m (sl (m 128) a (b - a).toNat) 125 9 = m 125 9 + 1 := by unfold adN; rw [up_s]
    have hW' : NmW (adN m (sl (m 128) a (b - a).toNat)) := by
      have := adN_W (w := sl (m 128) a (b - a).toNat) hW (by rw [sl_len]; omega) (fun j hj => by rw [sl_len] at hj; rw [sl_get _ _ _ _ hj]; have := T.2.2 (a + j); omega) (by omega)
      unfold NmW
      rw [e9]
      have e2 : (m 125 9 + 1).toNat = (m 125 9).toNat + 1 := by omega
      rw [e2]
      exact this
    have hlt : ∀ k : Nat, (k : Int) < m 125 9 → nmR (adN m (sl (m 128) a (b - a).toNat)) k = nmR m k := fun k hk => adN_lt hW (by omega)
    have heq : nmR (adN m (sl (m 128) a (b - a).toNat)) (m 125 9).toNat = sl (m 128) a (b - a).toNat := adN_eq h1
    have hno : ∀ k : Nat, (k : Int) < m 125 9 → ¬ nmR m k = sl (m 128) a (b - a).toNat := fun k hk => nix_no (nmR m) _ (m 125 9).toNat 0 k (by omega) (by unfold nmI at e0; omega)
    rw [e]
    refine ⟨⟨by omega, by rw [e9, e0]; omega, ?_⟩, hW', ⟨?_, by rw [e9]; have := hD.2.1; omega, fun j hj => ?_⟩, by rw [e9]; omega, by rw [e9]; omega, fun x w h => ⟨h.1, by rw [e9]; have := h.2.1; omega, ?_⟩⟩
    · rw [e0]
      have : (((m 125 9).toNat : Nat) : Int).toNat = (m 125 9).toNat := by omega
      rw [this]
      exact heq
    · intro j k hj hk hjk
      rw [e9] at hj hk
      by_cases qj : (j : Int) < m 125 9
      · rw [hlt j qj] at hjk
        by_cases qk : (k : Int) < m 125 9
        · rw [hlt k qk] at hjk
          exact hD.1 j k qj qk hjk
        · have : k = (m 125 9).toNat := by omega
          rw [this, heq] at hjk
          exact absurd hjk (hno j qj)
      · have hj' : j = (m 125 9).toNat := by omega
        by_cases qk : (k : Int) < m 125 9
        · rw [hlt k qk, hj', heq] at hjk
          exact absurd hjk.symm (hno k qk)
        · omega
    · rw [hlt j (by have := hD.2.1; omega)]
      exact hD.2.2 j hj
    · rw [hlt _ (by have := h.2.1; have := h.1; omega)]
      exact h.2.2
/-- asked again it is there -/
theorem nmM_2 {m : PM} {a b : Int} (hD : NmD m) {x : Int} (h : nX m x (sl (m 128) a (b - a).toNat)) : nmM m a b = m ∧ (nmI m a b : Int) = x := by
  have e : (nmI m a b : Int) = x := nix_X hD h
  exact ⟨if_pos (by rw [e]; exact h.2.1), e⟩
theorem nX_cg {m m' : PM} (h1 : m' 125 9 = m 125 9) (h2 : ∀ i, m' 129 i = m 129 i) (h3 : ∀ i, m' 130 i = m 130 i) {x : Int} {w : List Int} (h : nX m x w) : nX m' x w :=
  ⟨h.1, by rw [h1]; exact h.2.1, by rw [nmR_cg (h3 _) (fun j _ => h2 _)]; exact h.2.2⟩
theorem NmD_cg {m m' : PM} (h1 : m' 125 9 = m 125 9) (h2 : ∀ i, m' 129 i = m 129 i) (h3 : ∀ i, m' 130 i = m 130 i) (h : NmD m) : NmD m' := by
  have e : ∀ k, nmR m' k = nmR m k := fun k => nmR_cg (h3 _) (fun j _ => h2 _)
  unfold NmD
  rw [h1]
  refine ⟨fun j k hj hk z => h.1 j k hj hk (by rw [← e j, ← e k]; exact z), h.2.1, fun j hj => by rw [e]; exact h.2.2 j hj⟩
/-- the names of the table, in order -/
def nmL (m : PM) : List (List Int) := (List.range (m 125 9).toNat).map (nmR m)
theorem nmL_cg {m m' : PM} (h1 : m' 125 9 = m 125 9) (h2 : ∀ i, m' 129 i = m 129 i) (h3 : ∀ i, m' 130 i = m 130 i) : nmL m' = nmL m := by
  have e : ∀ k, nmR m' k = nmR m k := fun k => nmR_cg (h3 _) (fun j _ => h2 _)
  unfold nmL
  rw [h1, show nmR m' = nmR m from funext e]
/-- a list with a name more, if it is new -/
def LsA (L : List (List Int)) (w : List Int) : List (List Int) := if w ∈ L then L else L ++ [w]
theorem nmM_L {m : PM} {a b : Int} (hW : NmW m) : nmL (nmM m a b) = LsA (nmL m) (sl (m 128) a (b - a).toNat) := by
  have h1 := hW.1
  have hle := nix_le (nmR m) (sl (m 128) a (b - a).toNat) (m 125 9).toNat 0
  by_cases q : (nmI m a b : Int) < m 125 9
  · have e : nmM m a b = m := if_pos q
    rw [e]
    refine (if_pos ?_).symm
    refine List.mem_map.mpr ⟨nmI m a b, List.mem_range.mpr (by omega), ?_⟩
    exact nix_is (nmR m) _ _ 0 (by unfold nmI at q; omega)
  · have e : nmM m a b = adN m (sl (m 128) a (b - a).toNat) := if_neg q
    have e0 : nmI m a b = (m 125 9).toNat := by unfold nmI at q ⊢; omega
    have e9 : adN m (sl (m 128) a (b - a).toNat) 125 9 = m 125 9 + 1 := by unfold adN; rw [up_s]
    have hno : ∀ k : Nat, (k : Int) < m 125 9 → ¬ nmR m k = sl (m 128) a (b - a).toNat := fun k hk => nix_no (nmR m) _ (m 125 9).toNat 0 k (by omega) (by unfold nmI at e0; omega)
    have heq : nmR (adN m (sl (m 128) a (b - a).toNat)) (m 125 9).toNat = sl (m 128) a (b - a).toNat := adN_eq h1
    have e2 : (m 125 9 + 1).toNat = (m 125 9).toNat + 1 := by omega
    rw [e]
    have hn : ¬ sl (m 128) a (b - a).toNat ∈ nmL m := fun z => by
      obtain ⟨k, hk, hk2⟩ := List.mem_map.mp z
      exact hno k (by have := List.mem_range.mp hk; omega) hk2
    unfold LsA
    rw [if_neg hn]
    unfold nmL
    rw [e9, e2, List.range_succ, List.map_append, List.map_singleton, heq]
    congr 1
    exact List.map_congr_left fun k hk => adN_lt hW (by have := List.mem_range.mp hk; omega)
