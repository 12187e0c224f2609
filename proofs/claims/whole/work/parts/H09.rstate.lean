/-! ===== the reference at work: its terms, its atoms that hold ===== -/
theorem nX_len {m : PM} (hW : NmW m) {x : Int} {w : List Int} (h : nX m x w) : m 130 x = (w.length : Int) := by
  obtain ⟨h1, h2, h3⟩ := h
  obtain ⟨_, _, z⟩ := hW
  obtain ⟨a1, a2, _⟩ := z x.toNat (by omega)
  have ex : ((x.toNat : Nat) : Int) = x := by omega
  rw [← h3]
  unfold nmR
  rw [sl_len, ex]
  rw [ex] at a1
  omega
/-- the lengths that are kept -/
theorem Tg_len {m : PM} {T : Nat} (hW : NmW m) (hI : TtI m T) (hL : TtL m T) : ∀ (f t : Nat) (cs : List Cd), t < T → TgR f m t cs → m 152 t = tlC cs := by
  intro f
  induction f with
  | zero => intro t cs _ h; exact absurd h (fun z => z)
  | succ f ih =>
    intro t cs ht h
    obtain ⟨w, ps, h1, h2, h3, h4, h5⟩ := h
    rw [(hL t ht).2, h4, nX_len hW h3, h1]
    have key : ∀ j : Nat, j ≤ ps.length → plS m (4 * (t : Int)) j = (j : Int) + tlC (ps.take j).flatten := by
      intro j
      induction j with
      | zero => intro _; rfl
      | succ j ihj =>
        intro hj
        obtain ⟨u, e1, e2, e3⟩ := h5 j (by omega)
        show plS m (4 * (t : Int)) j + 1 + m 152 (m 151 (4 * (t : Int) + j)) = _
        rw [ihj (by omega), e1, ih u _ (by omega) e3, take_p (by omega), List.flatten_append, tl_app, List.flatten_cons, List.flatten_nil, List.append_nil]
        omega
    rw [show (((ps.length : Nat) : Int)).toNat = ps.length from rfl, key ps.length (Nat.le_refl _), List.take_length]
    unfold tlC
    rw [List.map_cons, List.sum_cons]
    show (w.length : Int) + _ + ((ps.length : Int) + _) = ((w.length : Int) + (if ps.length = 0 then 0 else 2 + (ps.length : Int))) + _
    by_cases n0 : ps.length = 0
    · rw [if_pos n0, if_pos (by omega)]
      omega
    · rw [if_neg n0, if_neg (by omega)]
      omega
/-- the atoms that hold -/
def HdS (W : Int → Nat) (m : PM) (T : Nat) (S : List Atm) : Prop := ∀ i : Nat, i < S.length → nX m (m 154 i) (S.getD i ([], [])).1 ∧ (S.getD i ([], [])).2.length = W (m 154 i) ∧ ∀ k : Nat, k < (S.getD i ([], [])).2.length → ∃ u : Nat, m 155 (4 * (i : Int) + k) = (u : Int) ∧ u < T ∧ Tg m u ((S.getD i ([], [])).2.getD k [])
/-- the reference at work over the rules rs: T terms, the atoms S -/
def WkR (W : Int → Nat) (rs : List Rul) (m : PM) (T : Nat) (S : List Atm) : Prop := RV m rs ∧ TtI m T ∧ TtU m T ∧ TtL m T ∧ HdI W m S.length ∧ HdS W m T S ∧ ∀ i, iR (m 165 i)
/-- what of the memory that is -/
abbrev WkC (T : Nat) (c : Nat) (j : Int) : Prop := SRr c j ∨ ((c = 149 ∨ c = 150 ∨ c = 152) ∧ j < (T : Int)) ∨ (c = 151 ∧ j < 4 * (T : Int)) ∨ c = 153 ∨ (154 ≤ c ∧ c ≤ 160) ∨ (c = 125 ∧ (j = 42 ∨ j = 48))
theorem HdI_cg {W : Int → Nat} {m m' : PM} {F : Nat} (e9 : m' 125 9 = m 125 9) (e48 : m' 125 48 = m 125 48) (k : ∀ c j, 154 ≤ c → c ≤ 160 → m' c j = m c j) (h : HdI W m F) : HdI W m' F := by
  have e4 : m' 154 = m 154 := funext fun j => k _ _ (by decide) (by decide)
  have e5 : m' 155 = m 155 := funext fun j => k _ _ (by decide) (by decide)
  have e6 : m' 156 = m 156 := funext fun j => k _ _ (by decide) (by decide)
  have e7 : m' 157 = m 157 := funext fun j => k _ _ (by decide) (by decide)
  have e8 : m' 158 = m 158 := funext fun j => k _ _ (by decide) (by decide)
  have ee : m' 159 = m 159 := funext fun j => k _ _ (by decide) (by decide)
  have ef : m' 160 = m 160 := funext fun j => k _ _ (by decide) (by decide)
  unfold HdI
  rw [e9, e48, e4, e5, e6, e7, e8, ee, ef]
  exact h
theorem WkR_cg {W : Int → Nat} {rs : List Rul} {m m' : PM} {T : Nat} {S : List Atm} (k : ∀ c j, WkC T c j → m' c j = m c j) (r1 : ∀ j, iR (m' 151 j)) (r5 : ∀ j, iR (m' 165 j)) (h : WkR W rs m T S) : WkR W rs m' T S := by
  obtain ⟨h1, h2, h3, h4, h5, h6, _⟩ := h
  have e9 : m' 125 9 = m 125 9 := k _ _ (by omega)
  have e129 : ∀ i, m' 129 i = m 129 i := fun i => k _ _ (by omega)
  have e130 : ∀ i, m' 130 i = m 130 i := fun i => k _ _ (by omega)
  refine ⟨RV_cg2 (fun c j z => k c j (Or.inl z)) h1, TtI_cg (k _ _ (by omega)) (fun t ht => k _ _ (by omega)) (fun t ht => k _ _ (by omega)) (fun i _ _ => k _ _ (by omega)) r1 (fun i _ => k _ _ (by omega)) h2, TtU_cg h2 (fun t ht => k _ _ (by omega)) (fun t ht => k _ _ (by omega)) (fun i _ _ => k _ _ (by omega)) h3, TtL_cg h2 e9 e130 (fun t ht => k _ _ (by omega)) (fun t ht => k _ _ (by omega)) (fun i _ _ => k _ _ (by omega)) (fun t ht => k _ _ (by omega)) h4, HdI_cg e9 (k _ _ (by omega)) (fun c j y1 y2 => k c j (by omega)) h5, fun i hi => ?_, r5⟩
  obtain ⟨a1, a2, a3⟩ := h6 i hi
  rw [k 154 _ (by omega)]
  refine ⟨nX_cg e9 e129 e130 a1, a2, fun q hq => ?_⟩
  obtain ⟨u, b1, b2, b3⟩ := a3 q hq
  exact ⟨u, by rw [k _ _ (by omega)]; exact b1, b2, TgR_cg (T := T) e9 e129 e130 (fun t ht => ⟨k _ _ (by omega), k _ _ (by omega), fun j _ => k _ _ (by omega)⟩) _ u _ b2 b3⟩
theorem gA_mem {S : List Atm} {i : Nat} (h : i < S.length) : S.getD i ([], []) ∈ S := by
  rw [List.getD_eq_getElem?_getD, List.getElem?_eq_getElem h]
  exact List.getElem_mem h
theorem gA_ex {S : List Atm} {a : Atm} (h : a ∈ S) : ∃ i, i < S.length ∧ S.getD i ([], []) = a := by
  obtain ⟨i, hi, e⟩ := List.getElem_of_mem h
  exact ⟨i, hi, by rw [List.getD_eq_getElem?_getD, List.getElem?_eq_getElem hi]; exact e⟩
/-- an atom that is tried, and those that hold -/
theorem isA_S {W : Int → Nat} {rs : List Rul} {m : PM} {T : Nat} {S : List Atm} (h : WkR W rs m T S) {x : Int} {w : List Int} {ps : List (List Cd)} (hx : nX m x w) (hW : W x = ps.length) (hr : ∀ k : Nat, k < ps.length → ∃ u : Nat, m 168 k = (u : Int) ∧ u < T ∧ Tg m u (ps.getD k [])) {i : Nat} (hi : i < S.length) : isA m i x (sl (m 168) 0 ps.length) ↔ S.getD i ([], []) = (w, ps) := by
  obtain ⟨hv, hI, hU, _, _, hS, _⟩ := h
  have hD := hv.2.2.1
  obtain ⟨a1, a2, a3⟩ := hS i hi
  unfold isA
  rw [sl_len, sl_eq]
  constructor
  · rintro ⟨b1, _, b2⟩
    rw [b1] at a1 a2
    have ew := nX_fun a1 hx
    have ep : (S.getD i ([], [])).2 = ps := ext_gD2 (by rw [a2, hW]) fun k hk => by
      obtain ⟨u, u1, u2, u3⟩ := a3 k hk
      obtain ⟨v, v1, v2, v3⟩ := hr k (by omega)
      have e := b2 k (by omega)
      rw [u1, show (0 : Int) + (k : Int) = (k : Int) by omega, v1] at e
      have euv : u = v := by omega
      rw [euv] at u3
      exact TgR_fun _ _ _ _ _ u3 v3
    exact Prod.ext ew ep
  · intro e
    rw [e] at a1 a2 a3
    have e1 : m 154 (i : Int) = x := nX_in2 hD a1 hx
    refine ⟨e1, rfl, fun k hk => ?_⟩
    obtain ⟨u, u1, u2, u3⟩ := a3 k hk
    obtain ⟨v, v1, v2, v3⟩ := hr k hk
    rw [u1, show (0 : Int) + (k : Int) = (k : Int) by omega, v1, Tg_in hU hD u2 v2 u3 v3]
section RSL
variable {d : Nat} {μ : am_Mem} {l : PM} {T : Nat} {β : Nat → List Cd}
theorem take_c {cs : List Cd} {j : Nat} (h : j < cs.length) : cs.take (j + 1) = cs.take j ++ [cs.getD j (0, [])] := by
  rw [List.take_succ_eq_append_getElem h, List.getD_eq_getElem?_getD, List.getElem?_eq_getElem h]
  rfl
/-- the length of a rule's term with its variables bound -/
theorem c_lenOf {m : PM} {k : Int} {cs : List Cd} (H : RS μ) (hW : NmW m) (h9 : m 125 9 ≤ 1010) (hI : TtI m T) (hL : TtL m T) (h : TmR 11 m k cs) (hk : 0 ≤ k ∧ k + (cs.length : Int) ≤ 1100) (hb : BdM β m T k cs.length) : Wp d 231 (0, [some (.ref 125), some (.int (zI k)), none, none], [], sA μ m l) (pI (fun y μ' => y = zI (tlC (sbC β cs)) ∧ μ' = sA μ m l) noX) := by
  have htop := TmR_top h
  have hT := hI.2.1
  have loop : ∀ (f j : Nat), j + f = cs.length → Wp d 231 (4, [some (.ref 125), some (.int (zI k)), some (.int (zI (tlC (sbC β (cs.take j))))), some (.int (zI (k + (j : Int))))], [], sA μ m l) (pI (fun y μ' => y = zI (tlC (sbC β cs)) ∧ μ' = sA μ m l) noX) := by
    intro f
    induction f with
    | zero =>
      intro j hj
      have ej : j = cs.length := by omega
      refine R231_4 H ⟨⟨by omega, by omega⟩, ⟨by omega, by omega⟩, by rw [htop.2]; exact ⟨by omega, by omega⟩, fun _ => ⟨?_, rfl⟩, fun z => by rw [htop.2] at z; omega⟩
      rw [ej, List.take_length]
    | succ f ih =>
      intro j hj
      have nd := TmR_nd 11 k cs h j (by omega)
      have go : tlC (sbC β (cs.take (j + 1))) = tlC (sbC β (cs.take j)) + tlC (sbC β [cs.getD j (0, [])]) := by rw [take_c (by omega), sbC_app, tl_app]
      have z := ih (j + 1) (by omega)
      rw [go, show k + ((j + 1 : Nat) : Int) = k + (j : Int) + 1 by omega] at z
      generalize hc : cs.getD j (0, []) = c at *
      obtain ⟨a, w⟩ := c
      unfold NdR at nd
      by_cases h5 : 5 ≤ a
      · rw [if_pos h5] at nd
        have nd2 : m 139 (k + (j : Int)) = (a : Int) - 5 := nd.2.1
        obtain ⟨b1, u, b2, b3, b4⟩ := hb j (by omega) (by omega)
        have ea : (m 139 (k + (j : Int))).toNat = a - 5 := by omega
        rw [ea] at b4
        refine R231_4 H ⟨⟨by omega, by omega⟩, ⟨by omega, by omega⟩, by rw [htop.2]; exact ⟨by omega, by omega⟩, fun y => by rw [htop.2] at y; omega, fun _ => ⟨⟨by omega, by omega⟩, ⟨by omega, by omega⟩, ⟨fun y => by omega, fun _ => ⟨⟨by omega, b1⟩, by rw [b2]; exact ⟨by omega, by omega⟩, trivial⟩⟩, ?_⟩⟩
        rintro v1 e1
        rw [if_neg (by omega), b2, Tg_len hW hI hL _ u _ b3 b4] at e1
        rw [sbC_var β h5, ← e1] at z
        exact z
      · rw [if_neg h5] at nd
        obtain ⟨n1, n2, n3⟩ := nd
        have n3 : m 140 (k + (j : Int)) = (a : Int) := n3
        have nx1 := n1.1
        have nx2 := n1.2.1
        have el := nX_len hW n1
        have el : m 130 (m 138 (k + (j : Int))) = (w.length : Int) := el
        refine R231_4 H ⟨⟨by omega, by omega⟩, ⟨by omega, by omega⟩, by rw [htop.2]; exact ⟨by omega, by omega⟩, fun y => by rw [htop.2] at y; omega, fun _ => ⟨⟨by omega, by omega⟩, ⟨by omega, by omega⟩, ⟨fun _ => ⟨⟨by omega, by omega⟩, ⟨by omega, by omega⟩, trivial⟩, fun y => by omega⟩, ?_⟩⟩
        rintro v1 e1
        have e2 : tlC (sbC β [(a, w)]) = (w.length : Int) + (if a = 0 then 0 else 2 + (a : Int)) := by
          have e3 : sbC β [(a, w)] = [(a, w)] := by
            unfold sbC
            rw [List.flatMap_cons, List.flatMap_nil, List.append_nil]
            exact if_neg h5
          rw [e3]
          show ((w.length : Int) + (if a = 0 then 0 else 2 + (a : Int))) + 0 = _
          omega
        have e4 : v1 = tlC (sbC β (cs.take j)) + tlC (sbC β [(a, w)]) := by
          rw [e2, e1, if_pos (by omega), n3, el]
          by_cases a0 : a = 0
          · rw [if_pos (by omega), if_pos a0]
            omega
          · rw [if_neg (by omega), if_neg a0]
            omega
        rw [← e4] at z
        exact z
  have z := loop cs.length 0 (by omega)
  rw [show k + ((0 : Nat) : Int) = k by omega] at z
  exact R231_0 H z
end RSL
