/-! ===== the reference: conditions with their variables bound ===== -/
/-- variables that are bound, and to what -/
def VbO (β : Nat → List Cd) (m : PM) (T : Nat) (V : Nat → Prop) : Prop := ∀ v : Nat, v < 8 → V v → ∃ u : Nat, m 163 v = (u : Int) ∧ u < T ∧ Tg m u (β v)
def VrI (V : Nat → Prop) (cs : List Cd) : Prop := ∀ c, c ∈ cs → 5 ≤ c.1 → c.1 < 13 ∧ V (c.1 - 5)
theorem BdM_of {β : Nat → List Cd} {m : PM} {T : Nat} {V : Nat → Prop} {k : Int} {cs : List Cd} (h : TmR 11 m k cs) (hv : VrI V cs) (hb : VbO β m T V) : BdM β m T k cs.length := by
  intro i hi h0
  have nd := TmR_nd 11 k cs h i hi
  have hm : cs.getD i (0, []) ∈ cs := by
    rw [List.getD_eq_getElem?_getD, List.getElem?_eq_getElem hi]
    exact List.getElem_mem hi
  generalize cs.getD i (0, []) = c at *
  unfold NdR at nd
  by_cases h5 : 5 ≤ c.1
  · rw [if_pos h5] at nd
    obtain ⟨a1, a2⟩ := hv c hm h5
    obtain ⟨u, b1, b2, b3⟩ := hb (c.1 - 5) (by omega) a2
    have e : ((c.1 - 5 : Nat) : Int) = m 139 (k + i) := by rw [nd.2.1]; omega
    rw [e] at b1
    have e2 : (m 139 (k + i)).toNat = c.1 - 5 := by omega
    exact ⟨by omega, u, b1, b2, by rw [e2]; exact b3⟩
  · rw [if_neg h5] at nd
    omega
theorem VbO_cg {β : Nat → List Cd} {m m' : PM} {T T' : Nat} {V : Nat → Prop} (hT : T ≤ T') (e3 : ∀ v, m' 163 v = m 163 v) (tg : ∀ (u : Nat) (q : List Cd), u < T → Tg m u q → Tg m' u q) (h : VbO β m T V) : VbO β m' T' V := fun v hv hV => by
  obtain ⟨u, b1, b2, b3⟩ := h v hv hV
  exact ⟨u, by rw [e3]; exact b1, by omega, tg u _ b2 b3⟩
/-- an atom of a rule in the memory -/
def AtN (m : PM) (a : Int) (ps : List (List Cd)) : Prop := (0 ≤ a ∧ a < 600) ∧ m 137 a = (ps.length : Int) ∧ ps.length ≤ 4 ∧ ∀ k : Nat, k < ps.length → (0 ≤ m 136 (4 * a + k) ∧ m 136 (4 * a + k) + ((ps.getD k []).length : Int) ≤ 1000) ∧ TmR 11 m (m 136 (4 * a + k)) (ps.getD k [])
theorem AtR_N {m : PM} {a : Int} {at_ : Atm} {d : Bool} {nd : Int} (ha : 0 ≤ a ∧ a < 600) (hn : nd ≤ 1000) (h : AtR m a at_ d nd) : AtN m a at_.2 := by
  obtain ⟨_, b0, b2, k0, b3, b4, b5⟩ := h
  refine ⟨ha, b2, b0, fun k hk => ?_⟩
  obtain ⟨x, e1, e2, e3, e4⟩ := PsR_get at_.2 0 k0 b5 k hk
  rw [Nat.zero_add] at e1
  rw [e1]
  exact ⟨⟨by omega, by omega⟩, e4⟩
theorem AtN_cg {m m' : PM} {a : Int} {ps : List (List Cd)} (k : ∀ c j, SRr c j → m' c j = m c j) (h : AtN m a ps) : AtN m' a ps := by
  obtain ⟨h1, h2, h3, h4⟩ := h
  refine ⟨h1, by rw [k _ _ (by omega)]; exact h2, h3, fun i hi => ?_⟩
  obtain ⟨a1, a2⟩ := h4 i hi
  rw [k 136 _ (by omega)]
  exact ⟨a1, TmR_cg (fun x w z => nX_cg (k _ _ (by omega)) (fun i => k _ _ (by omega)) (fun i => k _ _ (by omega)) z) 11 _ _ (fun i _ _ => ⟨k _ _ (by omega), k _ _ (by omega), k _ _ (by omega), k _ _ (by omega)⟩) (fun i _ _ => k _ _ (by omega)) a2⟩
/-- the state with more terms -/
theorem WkR_md {W : Int → Nat} {rs : List Rul} {m m' : PM} {T T' : Nat} {S : List Atm} (h : WkR W rs m T S) (hT : T ≤ T') (i1 : TtI m' T') (i2 : TtU m' T') (i3 : TtL m' T') (fr : ∀ c i, ¬ (WMd T c i ∨ c = 165) → m' c i = m c i) (r5 : ∀ i, iR (m' 165 i)) : WkR W rs m' T' S := by
  obtain ⟨h1, h2, h3, h4, h5, h6, _⟩ := h
  refine ⟨RV_cg2 (fun c j z => fr c j (by omega)) h1, i1, i2, i3, HdI_cg (fr _ _ (by omega)) (fr _ _ (by omega)) (fun c j y1 y2 => fr c j (by omega)) h5, fun i hi => ?_, r5⟩
  obtain ⟨a1, a2, a3⟩ := h6 i hi
  rw [fr 154 _ (by omega)]
  refine ⟨nX_cg (fr _ _ (by omega)) (fun i => fr _ _ (by omega)) (fun i => fr _ _ (by omega)) a1, a2, fun q hq => ?_⟩
  obtain ⟨u, b1, b2, b3⟩ := a3 q hq
  exact ⟨u, by rw [fr _ _ (by omega)]; exact b1, by omega, Tg_fr fr b2 b3⟩
/-- what looking at conditions writes -/
abbrev WHl (T : Nat) (c : Nat) (j : Int) : Prop := WMd T c j ∨ c = 165 ∨ c = 166 ∨ c = 167 ∨ c = 168
section RC1
variable {d : Nat} {μ : am_Mem} {l : PM} {Q : Option Value ⊕ Nat → am_Mem → Prop} {T : Nat} {β : Nat → List Cd} {V : Nat → Prop} {W : Int → Nat} {rs : List Rul} {S : List Atm}
/-- does an atom of a rule hold -/
theorem c_isHeld {m : PM} {a : Int} {w : List Int} {ps : List (List Cd)} (H : RS μ) (hw : WkR W rs m T S) (hT : T + 1000 ≤ 130000) (ha : AtN m a ps) (hx : nX m (m 135 a) w) (hW : W (m 135 a) = ps.length) (hv : ∀ k, k < ps.length → VrI V (ps.getD k [])) (hb : VbO β m T V)
    (hk : ∀ m' : PM, WkR W rs m' T S → (∀ c j, ¬ WHl T c j → m' c j = m c j) → Q (.inl (some (.int (zI (bP (sbA β (w, ps) ∈ S)))))) (sA μ m' l)) :
    Wp (d + 3) 229 (0, [some (.ref 125), some (.int (zI a)), none, none, none], [], sA μ m l) Q := by
  obtain ⟨ha1, ha2, ha3, ha4⟩ := id ha
  have h9 := (RV_n hw.1).2.2.2.1
  have loop : ∀ (f j : Nat) (m1 : PM) (o4 : Option Value), j + f = ps.length → WkR W rs m1 T S → (∀ c j, ¬ WHl T c j → m1 c j = m c j) → (∀ k : Nat, k < j → ∃ u : Nat, m1 168 k = (u : Int) ∧ u < T ∧ Tg m1 u (sbC β (ps.getD k []))) → Wp (d + 3) 229 (4, [some (.ref 125), some (.int (zI a)), some (.int (zI 1)), some (.int (zI (j : Int))), o4], [], sA μ m1 l) Q := by
    intro f
    induction f with
    | zero =>
      intro j m1 o4 hj w1 fr row
      have ej : j = ps.length := by omega
      rw [ej] at row
      have e137 : m1 137 a = (ps.length : Int) := by rw [fr _ _ (by omega)]; exact ha2
      have e135 : m1 135 a = m 135 a := fr _ _ (by omega)
      have hx1 : nX m1 (m1 135 a) w := by rw [e135]; exact nX_cg (fr _ _ (by omega)) (fun i => fr _ _ (by omega)) (fun i => fr _ _ (by omega)) hx
      have hx10 := hx1.1
      have hx11 := hx1.2.1
      have h91 := (RV_n w1.1).2.2.2.1
      have hrow : ∀ k : Nat, k < (ps.map (sbC β)).length → ∃ u : Nat, m1 168 k = (u : Int) ∧ u < T ∧ Tg m1 u ((ps.map (sbC β)).getD k []) := fun k hk' => by
        rw [List.length_map] at hk'
        rw [map_gD hk']
        exact row k hk'
      have hWm : W (m1 135 a) = (ps.map (sbC β)).length := by rw [e135, List.length_map]; exact hW
      have hlm : (ps.map (sbC β)).length = ps.length := List.length_map _
      have hTn := w1.2.1.2.1
      refine R229_4 H ⟨ha1, ⟨by omega, by omega⟩, by rw [e137]; exact ⟨by omega, by omega⟩, fun _ => ?_, fun z => by omega⟩
      refine R229_60 H ⟨⟨by decide, by decide⟩, fun z => absurd z (by decide), fun _ => ⟨ha1, fun y μ' => μ' = sA μ m1 l ∧ ((sbA β (w, ps) ∈ S ∧ ∃ i : Nat, i < 1001 ∧ y = zI (i : Int)) ∨ (¬ sbA β (w, ps) ∈ S ∧ ∃ i : Nat, i < 4096 ∧ y = zI (-1 - (i : Int)))), noX, ?_, ?_, fun _ _ z => z.elim⟩⟩
      · rw [e137]
        refine c_find (d := d + 1) (W := W) (F := S.length) H w1.2.2.2.2.1 ⟨by omega, by omega⟩ ha3 (by rw [e135]; exact hW) (fun k hk' => ?_) (by omega) (fun i hi hA => ⟨rfl, Or.inl ⟨?_, i, ?_, rfl⟩⟩) (fun hno t0 mm y1 y2 _ _ _ => ⟨rfl, Or.inr ⟨fun hm => ?_, (t0 + mm) % 4096, Nat.mod_lt _ (by decide), rfl⟩⟩)
        · obtain ⟨u, u1, u2, _⟩ := row k hk'
          rw [u1]
          exact ⟨by omega, by omega⟩
        · have z := (isA_S w1 hx1 hWm hrow hi).mp (by rw [hlm]; exact hA)
          show (w, ps.map (sbC β)) ∈ S
          rw [← z]
          exact gA_mem hi
        · have := w1.2.2.2.2.1.2.1
          omega
        · obtain ⟨i, hi, e⟩ := gA_ex hm
          have z := (isA_S w1 hx1 hWm hrow hi).mpr e
          rw [hlm] at z
          exact hno i hi z
      · rintro y μ' ⟨rfl, h | h⟩
        · obtain ⟨h1, i, h2, rfl⟩ := h
          refine R229_80 H ⟨⟨by omega, by omega⟩, ?_⟩
          rintro v1 e1
          rw [if_neg (by omega)] at e1
          have z := hk m1 w1 fr
          rw [bP_1 h1, ← e1] at z
          exact z
        · obtain ⟨h1, i, h2, rfl⟩ := h
          refine R229_80 H ⟨⟨by omega, by omega⟩, ?_⟩
          rintro v1 e1
          rw [if_pos (by omega)] at e1
          have z := hk m1 w1 fr
          rw [bP_0 h1, ← e1] at z
          exact z
    | succ f ih =>
      intro j m1 o4 hj w1 fr row
      have e137 : m1 137 a = (ps.length : Int) := by rw [fr _ _ (by omega)]; exact ha2
      have e136 : m1 136 (4 * a + (j : Int)) = m 136 (4 * a + (j : Int)) := fr _ _ (by omega)
      have ha1' : AtN m1 a ps := AtN_cg (fun c j z => fr c j (by omega)) ha
      obtain ⟨n1, n2⟩ := ha1'.2.2.2 j (by omega)
      have tg1 : ∀ (u : Nat) (q : List Cd), u < T → Tg m u q → Tg m1 u q := fun u q hu h => TgR_cg (T := T) (fr _ _ (by omega)) (fun i => fr _ _ (by omega)) (fun i => fr _ _ (by omega)) (fun t ht => ⟨fr _ _ (by omega), fr _ _ (by omega), fun k _ => fr _ _ (by omega)⟩) _ u q hu h
      have hb1 : VbO β m1 T V := VbO_cg (Nat.le_refl _) (fun v => fr _ _ (by omega)) tg1 hb
      have hTn := w1.2.1.2.1
      refine R229_4 H ⟨ha1, ⟨by omega, by omega⟩, by rw [e137]; exact ⟨by omega, by omega⟩, fun z => by omega, fun _ => ⟨⟨by decide, by decide⟩, fun z => absurd z (by decide), fun _ => ⟨⟨by omega, by omega⟩, fun y μ' => ∃ m2 : PM, y = zI (m2 165 (m1 136 (4 * a + (j : Int)))) ∧ μ' = sA μ m2 l ∧ WkR W rs m2 T S ∧ (∀ c i, ¬ (WMd T c i ∨ c = 165) → m2 c i = m1 c i) ∧ OkM β 0 m2 T (m1 136 (4 * a + (j : Int))) (ps.getD j []), noX, ?_, ?_, fun _ _ z => z.elim⟩⟩⟩
      · refine c_made (β := β) (T := T) H w1.2.1 w1.2.2.1 w1.2.2.2.1 w1.1.2.2.1 (RV_n w1.1).2.2.2.1 (by omega) (Or.inl rfl) w1.2.2.2.2.2.2 n2 ⟨by omega, by omega⟩ (BdM_of n2 (hv j (by omega)) hb1) (fun m2 T2 y1 y2 y3 y4 y5 y6 _ y8 y9 y10 _ => ?_)
        have eT : T2 = T := y3 rfl
        rw [eT] at y4 y5 y6 y10
        exact ⟨m2, rfl, rfl, WkR_md w1 (Nat.le_refl _) y4 y5 y6 (fun c i z => y8 c i (by omega)) y9, fun c i z => y8 c i (by omega), y10⟩
      · rintro y μ' ⟨m2, rfl, rfl, w2, fr2, ok⟩
        have f2 : ∀ c i, ¬ WHl T c i → m2 c i = m c i := fun c i z => by rw [fr2 c i (by omega)]; exact fr c i z
        rcases ok with ⟨u, u1, u2, u3⟩ | ⟨_, u1, u2⟩
        · rw [u1]
          refine R229_33 H ⟨⟨by omega, by omega⟩, ?_⟩
          rintro v1 e1
          rw [if_neg (by omega)] at e1
          refine ⟨⟨by omega, by omega⟩, ?_⟩
          rintro m3 e3
          have f3 : ∀ c i, ¬ (c = 168 ∧ i = (j : Int)) → m3 c i = m2 c i := fun c i z => by rw [e3]; exact up_o z
          rw [e1]
          refine ih (j + 1) m3 _ (by omega) (WkR_cg (fun c i z => f3 c i (by omega)) (fun i => by rw [f3 _ _ (by omega)]; exact w2.2.1.2.2.1 i) (fun i => by rw [f3 _ _ (by omega)]; exact w2.2.2.2.2.2.2 i) w2) (fun c i z => by rw [f3 c i (by omega)]; exact f2 c i z) (fun k hk' => ?_)
          have tg3 : ∀ (u : Nat) (q : List Cd), Tg m2 u q → Tg m3 u q := fun u q h => TgR_cg (T := u + 1) (f3 _ _ (by omega)) (fun i => f3 _ _ (by omega)) (fun i => f3 _ _ (by omega)) (fun t ht => ⟨f3 _ _ (by omega), f3 _ _ (by omega), fun k _ => f3 _ _ (by omega)⟩) _ u q (by omega) h
          by_cases z : k = j
          · rw [z]
            exact ⟨u, by rw [e3, up_s], u2, tg3 u _ u3⟩
          · obtain ⟨u', v1, v2, v3⟩ := row k (by omega)
            exact ⟨u', by rw [f3 _ _ (by omega), fr2 _ _ (by omega)]; exact v1, v2, tg3 u' _ (Tg_fr fr2 v2 v3)⟩
        · rw [u1]
          refine R229_33 H ⟨⟨by decide, by decide⟩, ?_⟩
          rintro v1 e1
          rw [if_pos (by decide)] at e1
          refine ⟨⟨by omega, by omega⟩, ?_⟩
          rintro m3 e3
          have f3 : ∀ c i, ¬ (c = 168 ∧ i = (j : Int)) → m3 c i = m2 c i := fun c i z => by rw [e3]; exact up_o z
          have w3 : WkR W rs m3 T S := WkR_cg (fun c i z => f3 c i (by omega)) (fun i => by rw [f3 _ _ (by omega)]; exact w2.2.1.2.2.1 i) (fun i => by rw [f3 _ _ (by omega)]; exact w2.2.2.2.2.2.2 i) w2
          have hno : ¬ sbA β (w, ps) ∈ S := by
            intro hm
            obtain ⟨i, hi, e⟩ := gA_ex hm
            obtain ⟨_, _, b3⟩ := w2.2.2.2.2.2.1 i hi
            rw [e] at b3
            obtain ⟨u, _, c2, c3⟩ := b3 j (by show j < (ps.map (sbC β)).length; rw [List.length_map]; omega)
            have c3 : Tg m2 u ((ps.map (sbC β)).getD j []) := c3
            rw [map_gD (by omega)] at c3
            exact u2 u c2 c3
          have go : Wp (d + 3) 229 (60, [some (.ref 125), some (.int (zI a)), some (.int (zI v1)), some (.int (zI ((j : Int) + 1))), some (.int (zI (-1)))], [], sA μ m3 l) Q := by
            rw [e1]
            refine R229_60 H ⟨⟨by decide, by decide⟩, fun _ => ?_, fun z => absurd rfl z⟩
            have z := hk m3 w3 (fun c i z => by rw [f3 c i (by omega)]; exact f2 c i z)
            rw [bP_0 hno] at z
            exact z
          have e137' : m3 137 a = (ps.length : Int) := by rw [f3 _ _ (by omega), fr2 _ _ (by omega)]; exact e137
          refine R229_4 H ⟨ha1, ⟨by omega, by omega⟩, by rw [e137']; exact ⟨by omega, by omega⟩, fun _ => go, fun _ => ⟨by rw [e1]; exact ⟨by decide, by decide⟩, fun _ => go, fun z => absurd e1 z⟩⟩
  exact R229_0 H (loop ps.length 0 m none (by omega) hw (fun _ _ _ => rfl) (fun k hk' => absurd hk' (Nat.not_lt_zero k)))
end RC1
