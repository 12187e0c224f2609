/-! ===== the reference's terms: made, a name's node ===== -/
theorem map_gD {β : Nat → List Cd} {ps : List (List Cd)} {k : Nat} (hk : k < ps.length) : (ps.map (sbC β)).getD k [] = sbC β (ps.getD k []) := by
  rw [List.getD_eq_getElem?_getD, List.getD_eq_getElem?_getD, List.getElem?_map, List.getElem?_eq_getElem hk]
  rfl
theorem mem_gD2 {ps : List (List Cd)} {p : List Cd} (h : p ∈ ps) : ∃ k, k < ps.length ∧ ps.getD k [] = p := by
  obtain ⟨k, hk, e⟩ := List.getElem_of_mem h
  refine ⟨k, hk, ?_⟩
  rw [List.getD_eq_getElem?_getD, List.getElem?_eq_getElem hk]
  exact e
theorem Tg_un {β : Nat → List Cd} {m : PM} {t f : Nat} {ps : List (List Cd)} {w : List Int} (hn : ps.length ≤ 4) (hw : ∀ k, k < ps.length → wfS f (sbC β (ps.getD k []))) (h : Tg m t (sbC β ((ps.length, w) :: ps.flatten))) : nX m (m 149 t) w ∧ m 150 t = (ps.length : Int) ∧ ∀ k : Nat, k < ps.length → ∃ u : Nat, m 151 (4 * (t : Int) + k) = (u : Int) ∧ u < t ∧ Tg m u (sbC β (ps.getD k [])) := by
  obtain ⟨w', ps', h1, h2, h3, h4, h5⟩ := h
  rw [sbC_name β hn] at h1
  have e0 := List.cons.inj h1
  have el : (ps.map (sbC β)).length = ps'.length := congrArg Prod.fst e0.1
  have ew : w = w' := congrArg Prod.snd e0.1
  have ep : ps.map (sbC β) = ps' := by
    refine (wfS_list (wfS_pre (f + t)) (ps.map (sbC β)) ps' [] [] el (fun p hp => ?_) (fun p hp => ?_) (by rw [List.append_nil, List.append_nil]; exact e0.2)).1
    · obtain ⟨k, hk, e⟩ := mem_gD2 hp
      rw [List.length_map] at hk
      rw [map_gD hk] at e
      rw [← e]
      exact wfS_mono f _ _ (by omega) (hw k hk)
    · obtain ⟨k, hk, e⟩ := mem_gD2 hp
      obtain ⟨u, _, _, e3⟩ := h5 k hk
      rw [e] at e3
      exact wfS_mono t _ _ (by omega) (TgR_wf t u p e3)
  rw [List.length_map] at el
  refine ⟨by rw [ew]; exact h3, by rw [el]; exact h4, fun k hk => ?_⟩
  obtain ⟨u, e1, e2, e3⟩ := h5 k (by omega)
  rw [← ep, map_gD hk] at e3
  exact ⟨u, e1, e2, Tg_of _ _ _ e3⟩
theorem Tg_bd {β : Nat → List Cd} {m : PM} {t : Nat} {ps : List (List Cd)} {w : List Int} (hn : ps.length ≤ 4) (h3 : nX m (m 149 t) w) (h4 : m 150 t = (ps.length : Int)) (h5 : ∀ k : Nat, k < ps.length → ∃ u : Nat, m 151 (4 * (t : Int) + k) = (u : Int) ∧ u < t ∧ Tg m u (sbC β (ps.getD k []))) : Tg m t (sbC β ((ps.length, w) :: ps.flatten)) := by
  rw [sbC_name β hn]
  refine Tg_mk (by rw [List.length_map]; exact hn) h3 (by rw [List.length_map]; exact h4) (fun k hk => ?_)
  rw [List.length_map] at hk
  rw [map_gD hk]
  exact h5 k hk
theorem Tg_fr {m m' : PM} {T t : Nat} {cs : List Cd} (k : ∀ c i, ¬ (WMd T c i ∨ c = 165) → m' c i = m c i) (ht : t < T) (h : Tg m t cs) : Tg m' t cs :=
  TgR_cg (T := T) (k _ _ (by omega)) (fun i => k _ _ (by omega)) (fun i => k _ _ (by omega)) (fun t ht => ⟨k _ _ (by omega), k _ _ (by omega), fun i hi => k _ _ (by omega)⟩) _ t cs ht h
theorem isT_fn {m : PM} {t x x' : Int} {ps ps' : List Int} (h : isT m t x ps) (h' : isT m t x' ps') : x = x' ∧ ps = ps' := by
  obtain ⟨h1, h2, h3⟩ := h
  obtain ⟨g1, g2, g3⟩ := h'
  have el : ps.length = ps'.length := by omega
  refine ⟨h1.symm.trans g1, ?_⟩
  rw [← h3, ← g3, el]
theorem Tg_fr' {m m' : PM} {T t : Nat} {cs : List Cd} (k : ∀ c i, ¬ (WMd T c i ∨ c = 165) → m' c i = m c i) (ht : t < T) (h : Tg m' t cs) : Tg m t cs := Tg_fr (fun c i q => (k c i q).symm) ht h
/-- the terms' lengths, by their names and parts -/
def TtL (m : PM) (T : Nat) : Prop := ∀ t : Nat, t < T → m 149 t < m 125 9 ∧ m 152 t = m 130 (m 149 t) + (if m 150 t ≤ 0 then (0 : Int) else 2) + plS m (4 * (t : Int)) (m 150 t).toNat
theorem plS_cg {m m' : PM} {b : Int} : ∀ j : Nat, (∀ i : Nat, i < j → m' 151 (b + i) = m 151 (b + i) ∧ m' 152 (m 151 (b + i)) = m 152 (m 151 (b + i))) → plS m' b j = plS m b j := by
  intro j
  induction j with
  | zero => intro _; rfl
  | succ j ih =>
    intro h
    obtain ⟨h1, h2⟩ := h j (by omega)
    show plS m' b j + 1 + m' 152 (m' 151 (b + j)) = plS m b j + 1 + m 152 (m 151 (b + j))
    rw [ih (fun i hi => h i (by omega)), h1, h2]
theorem TtL_cg {m m' : PM} {T : Nat} (hI : TtI m T) (e9 : m' 125 9 = m 125 9) (e130 : ∀ i, m' 130 i = m 130 i) (e149 : ∀ t : Nat, t < T → m' 149 t = m 149 t) (e150 : ∀ t : Nat, t < T → m' 150 t = m 150 t) (e151 : ∀ i : Int, 0 ≤ i → i < 4 * (T : Int) → m' 151 i = m 151 i) (e152 : ∀ t : Nat, t < T → m' 152 t = m 152 t) (h : TtL m T) : TtL m' T := by
  intro t ht
  obtain ⟨_, a2, a3⟩ := hI.2.2.2.1 t ht
  refine ⟨by rw [e149 t ht, e9]; exact (h t ht).1, ?_⟩
  rw [e152 t ht, (h t ht).2, e149 t ht, e150 t ht, e130]
  rw [plS_cg (m := m) (m' := m') (m 150 t).toNat (fun i hi => ?_)]
  have hp := a3 i (by omega)
  refine ⟨e151 _ (by omega) (by omega), ?_⟩
  have z := e152 (m 151 (4 * (t : Int) + i)).toNat (by omega)
  rw [show (((m 151 (4 * (t : Int) + i)).toNat : Nat) : Int) = m 151 (4 * (t : Int) + i) by omega] at z
  exact z
section RMN
variable {d : Nat} {μ : am_Mem} {l : PM} {Q : Option Value ⊕ Nat → am_Mem → Prop} {x1 p j : Int} {T : Nat} {β : Nat → List Cd}
theorem md_node {m : PM} {ps : List (List Cd)} {w : List Int} {f : Nat} (H : RS μ) (hI : TtI m T) (hU : TtU m T) (hTL : TtL m T) (hD : NmD m) (hT : T < 130000) (hp : p = 0 ∨ p = 1) (hj : 0 ≤ j ∧ j < 1100) (hR : ∀ i, iR (m 165 i)) (hn : ps.length ≤ 4) (h140 : m 140 j = (ps.length : Int)) (hx : nX m (m 138 j) w) (h9 : m 125 9 ≤ 1010) (hw : ∀ k, k < ps.length → wfS f (sbC β (ps.getD k []))) (hps : ∀ k : Nat, k < ps.length → (0 ≤ m 141 (4 * j + k) ∧ m 141 (4 * j + k) < 1100) ∧ OkM β p m T (m 141 (4 * j + k)) (ps.getD k []))
    (hq : ∀ (m' : PM) (T' : Nat), T ≤ T' → T' ≤ T + 1 → (p = 0 → T' = T) → TtI m' T' → TtU m' T' → TtL m' T' → ((∃ t : Nat, t < T ∧ Tg m t (sbC β ((ps.length, w) :: ps.flatten))) → T' = T) → (∀ c i, ¬ (WMd T c i ∨ (c = 165 ∧ i = j)) → m' c i = m c i) → (∀ i, iR (m' 165 i)) → OkM β p m' T' j ((ps.length, w) :: ps.flatten) → ∀ o4 o5 o6 : Option Value, Wp (d + 2) 204 (9, [some (.ref 125), some (.int (zI x1)), some (.int (zI p)), some (.int (zI (j - 1))), o4, o5, o6], [], sA μ m' l) Q) (o6 : Option Value) :
    Wp (d + 2) 204 (49, [some (.ref 125), some (.int (zI x1)), some (.int (zI p)), some (.int (zI j)), some (.int (zI 1)), some (.int (zI 0)), o6], [], sA μ m l) Q := by
  have b0 : bP (∀ i : Nat, i < 0 → 0 ≤ m 165 (m 141 (4 * j + i))) = 1 := bP_1 (fun i hi => absurd hi (Nat.not_lt_zero i))
  have main := md_49 (d := d) (l := l) (Q := Q) (x1 := x1) (p := p) (n := ps.length) (T := T) H hI.1 hT hj hn h140 (fun k hk => (hps k hk).1) hR (fun mk o6 g1 g2 g3 => ?_) ps.length 0 m o6 (by omega) (fun _ _ _ => rfl) (fun i hi => absurd hi (Nat.not_lt_zero i)) hI.2.2.1
  · rw [b0] at main
    exact main
  have e140 : mk 140 j = (ps.length : Int) := by rw [g1 _ _ (by omega)]; exact h140
  have e138 : mk 138 j = m 138 j := g1 _ _ (by omega)
  have hIk : TtI mk T := TtI_cg (g1 _ _ (by omega)) (fun t ht => g1 _ _ (by omega)) (fun t ht => g1 _ _ (by omega)) (fun i h1 h2 => g1 _ _ (by omega)) g3 (fun i hi => g1 _ _ (by omega)) hI
  have hUk : TtU mk T := TtU_cg hI (fun t ht => g1 _ _ (by omega)) (fun t ht => g1 _ _ (by omega)) (fun i h1 h2 => g1 _ _ (by omega)) hU
  have hLk : TtL mk T := TtL_cg hI (g1 _ _ (by omega)) (fun i => g1 _ _ (by omega)) (fun t ht => g1 _ _ (by omega)) (fun t ht => g1 _ _ (by omega)) (fun i h1 h2 => g1 _ _ (by omega)) (fun t ht => g1 _ _ (by omega)) hTL
  /- the memory with the node's term, the table as it was -/
  have same : ∀ v : Int, iR v → OkM β p (up mk 165 j v) T j ((ps.length, w) :: ps.flatten) → ∀ o4 o5 o6 : Option Value, Wp (d + 2) 204 (9, [some (.ref 125), some (.int (zI x1)), some (.int (zI p)), some (.int (zI (j - 1))), o4, o5, o6], [], sA μ (up mk 165 j v) l) Q := by
    intro v hv ho
    refine hq _ T (Nat.le_refl _) (by omega) (fun _ => rfl) (TtI_cg (up_c (by decide)) (fun t ht => up_c (by decide)) (fun t ht => up_c (by decide)) (fun i h1 h2 => up_c (by decide)) (fun i => by rw [up_c (by decide)]; exact g3 i) (fun i hi => up_c (by decide)) hIk) (TtU_cg hIk (fun t ht => up_c (by decide)) (fun t ht => up_c (by decide)) (fun i h1 h2 => up_c (by decide)) hUk) (TtL_cg hIk (up_c (by decide)) (fun i => up_c (by decide)) (fun t ht => up_c (by decide)) (fun t ht => up_c (by decide)) (fun i h1 h2 => up_c (by decide)) (fun t ht => up_c (by decide)) hLk) (fun _ => rfl) (fun c i h => by rw [up_o (by omega)]; exact g1 c i (by omega)) (fun i => ?_) ho
    by_cases y : i = j
    · rw [y, up_s]
      exact hv
    · rw [up_i y, g1 _ _ (by omega)]
      exact hR i
  have frk : ∀ v : Int, ∀ c i, ¬ (WMd T c i ∨ c = 165) → up mk 165 j v c i = m c i := fun v c i h => by rw [up_c (by omega)]; exact g1 c i (by omega)
  refine R204_49 H ⟨hj, ⟨by omega, by omega⟩, by rw [e140]; exact ⟨by omega, by omega⟩, fun _ => ⟨bP_R _, fun y => ?_, fun y => ?_⟩, fun y => by omega⟩
  · rintro m1 rfl
    refine same (-1) ⟨by decide, by decide⟩ (Or.inr ?_) _ _ _
    have y' := bP_z.mp y
    have ⟨k, hk⟩ : ∃ k : Nat, ¬ (k < ps.length → 0 ≤ m 165 (m 141 (4 * j + k))) := Classical.not_forall.mp y'
    have hk1 : k < ps.length := Decidable.byContradiction fun z => hk (fun z' => absurd z' z)
    rcases (hps k hk1).2 with ⟨u, e, _, _⟩ | ⟨p0, _, no⟩
    · exact absurd (fun _ => by rw [e]; omega) hk
    · refine ⟨p0, up_s _ _ _ _, fun t ht z => ?_⟩
      obtain ⟨_, _, z3⟩ := Tg_un hn hw (Tg_fr' (frk _) ht z)
      obtain ⟨u, _, u2, u3⟩ := z3 k hk1
      exact no u (by omega) u3
  · have y' : ∀ k : Nat, k < ps.length → 0 ≤ m 165 (m 141 (4 * j + k)) := Classical.byContradiction fun z => y (bP_0 z)
    have hu : ∀ k : Nat, k < ps.length → ∃ u : Nat, mk 151 (4 * (T : Int) + k) = (u : Int) ∧ u < T ∧ Tg m u (sbC β (ps.getD k [])) := by
      intro k hk
      rw [g2 k hk]
      rcases (hps k hk).2 with ⟨u, e, e2, e3⟩ | ⟨_, e, _⟩
      · exact ⟨u, e, e2, e3⟩
      · have := y' k hk
        omega
    rw [e138, e140]
    have hxR : 0 ≤ m 138 j ∧ m 138 j < 1100 := ⟨hx.1, by have := hx.2.1; omega⟩
    refine ⟨fun y μ' => ∃ (v : Int) (m' : PM), y = zI v ∧ μ' = sA μ m' l ∧ ∀ o4 o5 o6 : Option Value, Wp (d + 2) 204 (9, [some (.ref 125), some (.int (zI x1)), some (.int (zI p)), some (.int (zI (j - 1))), o4, o5, o6], [], sA μ (up m' 165 j v) l) Q, noX, ?_, fun y μ' hy => ?_, fun _ _ z => z.elim⟩
    rotate_left
    · obtain ⟨v, m', rfl, rfl, hv⟩ := hy
      refine R204_144 H ⟨hj, ?_⟩
      rintro m1 rfl
      exact hv _ _ _
    refine c_term (p := p) H hIk hT hxR hn (fun k hk => ?_) hp (fun t ht it => ?_) (fun p0 no => ?_) (fun p1 no m' n1 n2 n3 n4 => ?_)
    · obtain ⟨u, e, e2, _⟩ := hu k hk
      rw [e]
      omega
    · refine ⟨(t : Int), mk, rfl, rfl, same _ ⟨by omega, by omega⟩ (Or.inl ⟨t, up_s _ _ _ _, ht, ?_⟩)⟩
      obtain ⟨i1, i2, i3⟩ := it
      rw [sl_len] at i2 i3
      have i3' := (sl_eq.mp i3).2
      refine Tg_fr (frk _) ht (Tg_bd hn ?_ ?_ (fun k hk => ?_))
      · rw [← g1 149 _ (by omega), i1]
        exact hx
      · rw [← g1 150 _ (by omega)]
        exact i2
      · obtain ⟨u, e, e2, e3⟩ := hu k hk
        have ek := i3' k hk
        have lt := ((hIk.2.2.2.1 t ht).2.2 k (by rw [i2]; omega)).2
        rw [ek, e] at lt
        refine ⟨u, ?_, by omega, e3⟩
        rw [← g1 151 _ (by omega), ek]
        exact e
    · refine ⟨-1, mk, rfl, rfl, same _ ⟨by decide, by decide⟩ (Or.inr ⟨p0, up_s _ _ _ _, fun t ht z => ?_⟩)⟩
      obtain ⟨z1, z2, z3⟩ := Tg_un hn hw (Tg_fr' (frk _) ht z)
      refine no t ht ⟨?_, ?_, ?_⟩
      · rw [g1 149 _ (by omega)]
        exact nX_in2 hD z1 hx
      · rw [sl_len, g1 150 _ (by omega)]
        exact z2
      · rw [sl_len, sl_eq]
        refine ⟨rfl, fun k hk => ?_⟩
        obtain ⟨u, e, e2, e3⟩ := hu k hk
        obtain ⟨u', d1, d2, d3⟩ := z3 k hk
        rw [e, g1 151 _ (by omega), d1, Tg_in hU hD (by omega) e2 d3 e3]
    · have hLn : TtL m' (T + 1) := by
        intro t ht
        by_cases z : t = T
        · obtain ⟨i1, i2, _⟩ := n2
          rw [sl_len] at i2
          refine ⟨by rw [z, i1, n4 125 9 (by omega), g1 125 9 (by omega)]; exact hx.2.1, ?_⟩
          rw [z, n3, i1, i2, n4 130 _ (by omega), show (((ps.length : Nat) : Int)).toNat = ps.length from rfl]
          rw [plS_cg (m := mk) (m' := m') ps.length (fun i hi => ?_)]
          obtain ⟨u, e, e2, _⟩ := hu i hi
          refine ⟨n4 _ _ (by omega), ?_⟩
          rw [e]
          exact n4 _ _ (by omega)
        · have ht' : t < T := by omega
          obtain ⟨_, a2, a3⟩ := hIk.2.2.2.1 t ht'
          refine ⟨by rw [n4 149 _ (by omega), n4 125 9 (by omega)]; exact (hLk t ht').1, ?_⟩
          rw [n4 152 _ (by omega), n4 149 _ (by omega), n4 150 _ (by omega), n4 130 _ (by omega), (hLk t ht').2]
          rw [plS_cg (m := mk) (m' := m') (mk 150 t).toNat (fun i hi => ?_)]
          have hp := a3 i (by omega)
          exact ⟨n4 _ _ (by omega), n4 _ _ (by omega)⟩
      have hEx : (∃ t : Nat, t < T ∧ Tg m t (sbC β ((ps.length, w) :: ps.flatten))) → T + 1 = T := by
        rintro ⟨t, ht, z⟩
        obtain ⟨z1, z2, z3⟩ := Tg_un hn hw z
        refine absurd ⟨?_, ?_, ?_⟩ (no t ht)
        · rw [g1 149 _ (by omega)]
          exact nX_in2 hD z1 hx
        · rw [sl_len, g1 150 _ (by omega)]
          exact z2
        · rw [sl_len, sl_eq]
          refine ⟨rfl, fun k hk => ?_⟩
          obtain ⟨u, e, e2, e3⟩ := hu k hk
          obtain ⟨u', d1, d2, d3⟩ := z3 k hk
          rw [e, g1 151 _ (by omega), d1, Tg_in hU hD (by omega) e2 d3 e3]
      have k4 : ∀ c i, ¬ (WMd T c i ∨ c = 165) → up m' 165 j (T : Int) c i = m c i := fun c i h => by rw [up_c (by omega), n4 c i (by omega)]; exact g1 c i (by omega)
      refine ⟨(T : Int), m', rfl, rfl, hq _ (T + 1) (by omega) (Nat.le_refl _) (fun p0 => by omega) (TtI_cg (up_c (by decide)) (fun t ht => up_c (by decide)) (fun t ht => up_c (by decide)) (fun i h1 h2 => up_c (by decide)) (fun i => by rw [up_c (by decide)]; exact n1.2.2.1 i) (fun i hi => up_c (by decide)) n1) (TtU_cg n1 (fun t ht => up_c (by decide)) (fun t ht => up_c (by decide)) (fun i h1 h2 => up_c (by decide)) ?_) (TtL_cg n1 (up_c (by decide)) (fun i => up_c (by decide)) (fun t ht => up_c (by decide)) (fun t ht => up_c (by decide)) (fun i h1 h2 => up_c (by decide)) (fun t ht => up_c (by decide)) hLn) hEx (fun c i h => by rw [up_o (by omega), n4 c i (by omega)]; exact g1 c i (by omega)) (fun i => ?_) (Or.inl ⟨T, up_s _ _ _ _, by omega, ?_⟩)⟩
      · have back : ∀ (t : Nat) (x : Int) (qs : List Int), t < T → isT m' t x qs → isT mk t x qs := fun t x qs ht h => isT_cg (T := T) ht (n4 _ _ (by omega)) (n4 _ _ (by omega)) (fun i h1 h2 => n4 _ _ (by omega)) (hIk.2.2.2.1 t ht).2.1.2 h
        intro t t' x qs ht ht' a b
        by_cases q1 : t = T
        · by_cases q2 : t' = T
          · omega
          · rw [q1] at a
            obtain ⟨f1, f2⟩ := isT_fn a n2
            rw [f1, f2] at b
            exact absurd (back t' _ _ (by omega) b) (no t' (by omega))
        · by_cases q2 : t' = T
          · rw [q2] at b
            obtain ⟨f1, f2⟩ := isT_fn b n2
            rw [f1, f2] at a
            exact absurd (back t _ _ (by omega) a) (no t (by omega))
          · exact hUk t t' x qs (by omega) (by omega) (back t x qs (by omega) a) (back t' x qs (by omega) b)
      · by_cases y : i = j
        · rw [y, up_s]
          exact ⟨by omega, by omega⟩
        · rw [up_i y, n4 _ _ (by omega), g1 _ _ (by omega)]
          exact hR i
      · obtain ⟨i1, i2, i3⟩ := n2
        rw [sl_len] at i2 i3
        have i3' := (sl_eq.mp i3).2
        refine Tg_bd hn ?_ ?_ (fun k hk => ?_)
        · rw [up_c (by decide), i1]
          exact nX_cg (k4 _ _ (by omega)) (fun i => k4 _ _ (by omega)) (fun i => k4 _ _ (by omega)) hx
        · rw [up_c (by decide)]
          exact i2
        · obtain ⟨u, e, e2, e3⟩ := hu k hk
          refine ⟨u, ?_, e2, Tg_fr k4 e2 e3⟩
          rw [up_c (by decide), i3' k hk]
          exact e
end RMN
