/-! ===== the reference: readRow whole ===== -/
section RRC
variable {d : Nat} {μ : am_Mem} {l : PM} {Q : Option Value ⊕ Nat → am_Mem → Prop}
theorem Tg_w {m m' : PM} {T u : Nat} {cs : List Cd} (fr : ∀ c j, ¬ ((c = 151 ∧ 4 * (T : Int) ≤ j) ∨ ((c = 149 ∨ c = 150 ∨ c = 152) ∧ (T : Int) ≤ j) ∨ c = 153 ∨ (c = 125 ∧ j = 42) ∨ c = 166 ∨ c = 167) → m' c j = m c j) (hu : u < T) (h : Tg m u cs) : Tg m' u cs := TgR_cg (T := T) (fr _ _ (by omega)) (fun i => fr _ _ (by omega)) (fun i => fr _ _ (by omega)) (fun t ht => ⟨fr _ _ (by omega), fr _ _ (by omega), fun i _ => fr _ _ (by omega)⟩) _ u _ hu h
theorem lst_nm {w : List Int} (hw : 1 ≤ w.length ∧ ∀ s, s ∈ w → ¬ nmV s = 0) {row : Int → Int} {q : Int} (hr : RwS row q w) : 48 ≤ row (q + (w.length : Int) - 1) ∧ row (q + (w.length : Int) - 1) ≤ 122 := by
  have z := hr (w.length - 1) (by omega)
  rw [show q + ((w.length - 1 : Nat) : Int) = q + (w.length : Int) - 1 by omega] at z
  rw [z]
  refine nmV_r (hw.2 _ ?_)
  rw [List.getD_eq_getElem?_getD, List.getElem?_eq_getElem (by omega)]
  exact List.getElem_mem _
/-- a term is read from its text's end to its beginning -/
theorem rr_term {row : Int → Int} (H : RS μ) : ∀ (f : Nat) (cs : List Cd), wfS f cs → gnd cs → NeC cs → ∀ (m : PM) (T h o : Nat) (q : Int) (o4 o5 o6 o7 o8 : Option Value), TbR m T → m 176 = row → (∀ c, c ∈ cs → ∃ x, nX m x c.2) → 0 ≤ q → q + ((tx cs).length : Int) ≤ 3000 → RwS row q (tx cs) → (q = 0 ∨ row (q - 1) = 32) → h + cs.length ≤ 1100 → o + cs.length ≤ 1100 → T + cs.length ≤ 130000 →
    (∀ (m' : PM) (T' u : Nat) (o4 o5 o6 o7 o8 : Option Value), T ≤ T' → T' ≤ T + cs.length → TbR m' T' → u < T' → Tg m' u cs → m' 166 (h : Int) = (u : Int) → (∀ c j, ¬ WRr T h o c j → m' c j = m c j) → Wp (d + 2) 215 (9, [some (.ref 125), some (.int (zI ((h : Int) + 1))), some (.int (zI (o : Int))), some (.int (zI q)), o4, o5, o6, o7, o8], [], sA μ m' l) Q) →
    Wp (d + 2) 215 (9, [some (.ref 125), some (.int (zI (h : Int))), some (.int (zI (o : Int))), some (.int (zI (q + ((tx cs).length : Int)))), o4, o5, o6, o7, o8], [], sA μ m l) Q := by
  intro f
  induction f with
  | zero => intro cs h; exact absurd h (fun z => z)
  | succ f ih =>
    intro cs hwf hg hne m T h o q o4 o5 o6 o7 o8 hb hrow hnx hq hq3 hr hpre hh ho hT hk
    cases cs with
    | nil => exact absurd hwf (fun z => z)
    | cons c rest =>
      obtain ⟨n, w⟩ := c
      have hn5 : n < 5 := hg (n, w) List.mem_cons_self
      obtain ⟨ps, h1, h2, h3⟩ := (wfS_n (by omega)).mp hwf
      have hw : 1 ≤ w.length ∧ ∀ s, s ∈ w → ¬ nmV s = 0 := hne (n, w) List.mem_cons_self hn5
      have hxw : ∃ x, nX m x w := hnx (n, w) List.mem_cons_self
      have hlc : ((n, w) :: rest : List Cd).length = ps.flatten.length + 1 := by rw [h2]; rfl
      by_cases n0 : n = 0
      · /- a name without parts -/
        have ep : ps = [] := List.eq_nil_of_length_eq_zero (by omega)
        have er : rest = [] := by rw [← h2, ep]; rfl
        have et : tx ((n, w) :: rest) = w := by rw [er, n0]; exact tx_0 w
        rw [et] at hr hq3 ⊢
        have hl := lst_nm hw hr
        have e176 : m 176 (q + (w.length : Int) - 1) = row (q + (w.length : Int) - 1) := by rw [hrow]
        refine R215_9 H ⟨⟨by omega, by omega⟩, fun z => by omega, fun _ => ⟨⟨by omega, by omega⟩, by rw [e176]; exact ⟨by omega, by omega⟩, fun _ => ⟨fun _ => ?_, fun z => absurd (by rw [e176]; omega) z⟩, fun z => absurd (by rw [e176]; omega) z⟩⟩
        have go := rr_node (d := d) (l := l) (Q := Q) (m := m) (T := T) (h := h) (o := o) (n := 0) (op := 0) (q := q) (w := w) (ps := []) (x4 := m 176 (q + (w.length : Int) - 1)) (o6 := o6) (o7 := o7) (o8 := o8) H hb (by omega) rfl (by decide) hw hxw ⟨hq, hq3⟩ (by rw [hrow]; exact hr) (by omega) (by omega) (by omega) (Or.inl ⟨rfl, rfl, by rw [hrow]; exact hpre⟩) (fun k hk' => absurd hk' (Nat.not_lt_zero k)) (fun m' T' u o4 o5 o6 o7 o8 t1 t2 b' u1 u2 u3 fr => by
          rw [show q - ((0 : Nat) : Int) = q by omega]
          refine hk m' T' u _ _ _ _ _ t1 (by omega) b' u1 ?_ u3 (fun c j z => fr c j (by omega))
          rw [er, n0]
          exact u2)
        rw [show (h : Int) + ((0 : Nat) : Int) = (h : Int) by omega, show (o : Int) + ((0 : Nat) : Int) = (o : Int) by omega] at go
        exact go
      · /- a name with parts -/
        have hgp : ∀ p, p ∈ ps → wfS f p ∧ gnd p := fun p hp => ⟨h3 p hp, fun c hc => hg c (List.mem_cons_of_mem _ (by rw [← h2]; exact List.mem_flatten.mpr ⟨p, hp, hc⟩))⟩
        have et : tx ((n, w) :: rest) = 40 :: (w ++ txP ps ++ [41]) := by rw [← h1, ← h2]; exact tx_n (by omega) hgp
        rw [et] at hr hq3 ⊢
        obtain ⟨r0, r1⟩ := RwS_c hr
        obtain ⟨r2, r3⟩ := RwS_app r1
        obtain ⟨rw_, rP⟩ := RwS_app r2
        obtain ⟨r4, _⟩ := RwS_c r3
        rw [List.length_append] at r4
        have hlen : ((40 :: (w ++ txP ps ++ [41]) : List Int).length : Int) = (w.length : Int) + ((txP ps).length : Int) + 2 := by
          rw [List.length_cons, List.length_append, List.length_append, List.length_singleton]
          omega
        rw [hlen] at hq3 ⊢
        have e41 : m 176 (q + ((w.length : Int) + ((txP ps).length : Int) + 2) - 1) = 41 := by
          rw [hrow, ← r4]
          congr 1
          omega
        have hmem : ∀ j, j < ps.length → ps.getD j [] ∈ ps := fun j hj => by
          rw [List.getD_eq_getElem?_getD, List.getElem?_eq_getElem hj]
          exact List.getElem_mem hj
        have hp1 : ∀ p, p ∈ ps → 1 ≤ p.length := fun p hp => by
          cases p with
          | nil =>
            have := h3 [] hp
            cases f with
            | zero => exact absurd this (fun z => z)
            | succ f => exact absurd this (fun z => z)
          | cons c cs => rw [List.length_cons]; omega
        have dl : ∀ j, j < ps.length → (ps.drop j).flatten.length = (ps.getD j []).length + (ps.drop (j + 1)).flatten.length := fun j hj => by
          rw [drop_c hj, List.flatten_cons, List.length_append]
        have dn : ∀ g j : Nat, j + g = ps.length → g ≤ (ps.drop j).flatten.length := by
          intro g
          induction g with
          | zero => intro j _; exact Nat.zero_le _
          | succ g ihg =>
            intro j hj
            have a := ihg (j + 1) (by omega)
            have b := dl j (by omega)
            have c := hp1 _ (hmem j (by omega))
            omega
        have dle : ∀ g j : Nat, j + g = ps.length → (ps.drop j).flatten.length ≤ ps.flatten.length := fun g j hj => by
          have z : ps.flatten.length = (ps.take j).flatten.length + (ps.drop j).flatten.length := by rw [← List.length_append, ← List.flatten_append, List.take_append_drop]
          omega
        /- the parts, the last one first -/
        have par : ∀ (j : Nat), j ≤ ps.length → ∀ (mj : PM) (Tj : Nat) (o4 o5 o6 o7 o8 : Option Value), TbR mj Tj → T ≤ Tj → Tj ≤ T + (ps.drop j).flatten.length → (∀ c i, ¬ (WMd T c i ∨ (c = 166 ∧ (h : Int) ≤ i) ∨ (c = 167 ∧ (o : Int) ≤ i)) → mj c i = m c i) → mj 167 (o : Int) = (h : Int) → (∀ k : Nat, j ≤ k → k < ps.length → ∃ u : Nat, mj 166 ((h : Int) + (ps.length : Int) - 1 - k) = (u : Int) ∧ u < Tj ∧ Tg mj u (ps.getD k [])) →
            Wp (d + 2) 215 (9, [some (.ref 125), some (.int (zI ((h : Int) + (ps.length : Int) - (j : Int)))), some (.int (zI ((o : Int) + 1))), some (.int (zI (q + 1 + (w.length : Int) + ((txP (ps.take j)).length : Int)))), o4, o5, o6, o7, o8], [], sA μ mj l) Q := by
          intro j
          induction j with
          | zero =>
            intro _ mj Tj o4 o5 o6 o7 o8 bj t1 t2 fr e167 hps
            rw [show q + 1 + (w.length : Int) + ((txP (ps.take 0)).length : Int) = q + 1 + (w.length : Int) by show q + 1 + (w.length : Int) + ((0 : Nat) : Int) = _; omega, show (h : Int) + (ps.length : Int) - ((0 : Nat) : Int) = (h : Int) + (ps.length : Int) by omega]
            have ej : mj 176 = row := by rw [← hrow]; exact funext fun i => fr _ _ (by omega)
            have hl := lst_nm hw rw_
            have e176 : mj 176 (q + 1 + (w.length : Int) - 1) = row (q + 1 + (w.length : Int) - 1) := by rw [ej]
            have hd0 : (ps.drop 0).flatten.length = ps.flatten.length := rfl
            have hdn := dn ps.length 0 (by omega)
            have hn1 : 1 ≤ ps.length := by omega
            refine R215_9 H ⟨⟨by omega, by omega⟩, fun z => by omega, fun _ => ⟨⟨by omega, by omega⟩, by rw [e176]; exact ⟨by omega, by omega⟩, fun _ => ⟨fun _ => ?_, fun z => absurd (by rw [e176]; omega) z⟩, fun z => absurd (by rw [e176]; omega) z⟩⟩
            have go := rr_node (d := d) (l := l) (Q := Q) (m := mj) (T := Tj) (h := h) (o := o) (n := ps.length) (op := 1) (q := q + 1) (w := w) (ps := ps) (x4 := mj 176 (q + 1 + (w.length : Int) - 1)) (o6 := o6) (o7 := o7) (o8 := o8) H bj (by omega) rfl (by omega) hw (by obtain ⟨x, hx⟩ := hxw; exact ⟨x, nX_cg (fr _ _ (by omega)) (fun i => fr _ _ (by omega)) (fun i => fr _ _ (by omega)) hx⟩) ⟨by omega, by omega⟩ (by rw [ej]; exact rw_) (by omega) (by omega) (by omega) (Or.inr ⟨rfl, by omega, by rw [ej, show q + 1 - 1 = q by omega]; exact r0, e167⟩) (fun k hk' => hps k (Nat.zero_le _) hk') (fun m' T' u o4 o5 o6 o7 o8 s1 s2 b' u1 u2 u3 fr' => by
              rw [show q + 1 - ((1 : Nat) : Int) = q by omega]
              refine hk m' T' u _ _ _ _ _ (by omega) (by omega) b' u1 ?_ u3 (fun c i z => by rw [fr' c i (by omega)]; exact fr c i (by omega))
              rw [← h1, ← h2]
              exact u2)
            exact go
          | succ j ihj =>
            intro hj mj Tj o4 o5 o6 o7 o8 bj t1 t2 fr e167 hps
            have hjl : j < ps.length := by omega
            have ej : mj 176 = row := by rw [← hrow]; exact funext fun i => fr _ _ (by omega)
            have hdj := dl j hjl
            have hd1 := dn (ps.length - (j + 1)) (j + 1) (by omega)
            have hdt := dle (ps.length - j) j (by omega)
            have hpm := hmem j hjl
            have eP : txP ps = txP (ps.take j) ++ (32 :: (tx (ps.getD j []) ++ txP (ps.drop (j + 1)))) := by
              rw [← txP_c, ← drop_c hjl, ← txP_app, List.take_append_drop]
            have eL : ((txP (ps.take (j + 1))).length : Int) = ((txP (ps.take j)).length : Int) + 1 + ((tx (ps.getD j [])).length : Int) := by
              rw [take_p hjl, txP_app, List.length_append, txP_c, List.length_cons, List.length_append]
              have e0 : (txP []).length = 0 := rfl
              omega
            have rPj := rP
            rw [eP] at rPj
            obtain ⟨_, s2⟩ := RwS_app rPj
            obtain ⟨s3, s4⟩ := RwS_c s2
            obtain ⟨s5, _⟩ := RwS_app s4
            have hlP : ((txP ps).length : Int) = ((txP (ps.take j)).length : Int) + 1 + ((tx (ps.getD j [])).length : Int) + ((txP (ps.drop (j + 1))).length : Int) := by
              rw [eP, List.length_append, List.length_cons, List.length_append]
              omega
            have go := ih (ps.getD j []) (h3 _ hpm) (hgp _ hpm).2 (fun c hc => hne c (List.mem_cons_of_mem _ (by rw [← h2]; exact List.mem_flatten.mpr ⟨_, hpm, hc⟩))) mj Tj (h + ps.length - (j + 1)) (o + 1) (q + 1 + (w.length : Int) + ((txP (ps.take j)).length : Int) + 1) o4 o5 o6 o7 o8 bj ej (fun c hc => by
              obtain ⟨x, hx⟩ := hnx c (List.mem_cons_of_mem _ (by rw [← h2]; exact List.mem_flatten.mpr ⟨_, hpm, hc⟩))
              exact ⟨x, nX_cg (fr _ _ (by omega)) (fun i => fr _ _ (by omega)) (fun i => fr _ _ (by omega)) hx⟩) (by omega) (by omega) s5 (Or.inr (by rw [show q + 1 + (w.length : Int) + ((txP (ps.take j)).length : Int) + 1 - 1 = q + 1 + (w.length : Int) + ((txP (ps.take j)).length : Int) by omega]; exact s3)) (by omega) (by omega) (by omega) (fun m' T' u o4 o5 o6 o7 o8 s1 s2' b' u1 u2 u3 fr' => by
              have fr2 : ∀ c i, ¬ (WMd T c i ∨ (c = 166 ∧ (h : Int) ≤ i) ∨ (c = 167 ∧ (o : Int) ≤ i)) → m' c i = m c i := fun c i z => by rw [fr' c i (by omega)]; exact fr c i z
              have e2 : m' 176 (q + 1 + (w.length : Int) + ((txP (ps.take j)).length : Int) + 1 - 1) = 32 := by
                rw [fr2 _ _ (by omega), hrow, show q + 1 + (w.length : Int) + ((txP (ps.take j)).length : Int) + 1 - 1 = q + 1 + (w.length : Int) + ((txP (ps.take j)).length : Int) by omega]
                exact s3
              refine R215_9 H ⟨⟨by omega, by omega⟩, fun z => by omega, fun _ => ⟨⟨by omega, by omega⟩, by rw [e2]; exact ⟨by decide, by decide⟩, fun _ => ⟨fun z => absurd e2 z, fun _ => ?_⟩, fun z => absurd (by rw [e2]; decide) z⟩⟩
              rw [show q + 1 + (w.length : Int) + ((txP (ps.take j)).length : Int) + 1 - 1 = q + 1 + (w.length : Int) + ((txP (ps.take j)).length : Int) by omega]
              have go2 := ihj (by omega) m' T' (some (.int (zI (m' 176 (q + 1 + (w.length : Int) + ((txP (ps.take j)).length : Int)))))) o5 o6 o7 o8 b' (by omega) (by omega) fr2 (by rw [fr' _ _ (by omega)]; exact e167) (fun k hk1 hk2 => by
                by_cases y : k = j
                · rw [y]
                  refine ⟨u, ?_, u1, u2⟩
                  rw [← u3]
                  congr 1
                  omega
                · obtain ⟨v, v1, v2, v3⟩ := hps k (by omega) hk2
                  exact ⟨v, by rw [fr' _ _ (by omega)]; exact v1, by omega, Tg_w (fun c i z => fr' c i (by omega)) v2 v3⟩)
              rw [show (h : Int) + (ps.length : Int) - (j : Int) = ((h + ps.length - (j + 1) : Nat) : Int) + 1 by omega] at go2
              exact go2)
            rw [eL]
            rw [show ((h + ps.length - (j + 1) : Nat) : Int) = (h : Int) + (ps.length : Int) - ((j + 1 : Nat) : Int) by omega, show q + 1 + (w.length : Int) + ((txP (ps.take j)).length : Int) + 1 + ((tx (ps.getD j [])).length : Int) = q + 1 + (w.length : Int) + (((txP (ps.take j)).length : Int) + 1 + ((tx (ps.getD j [])).length : Int)) by omega] at go
            exact go
        refine R215_9 H ⟨⟨by omega, by omega⟩, fun z => by omega, fun _ => ⟨⟨by omega, by omega⟩, by rw [e41]; exact ⟨by decide, by decide⟩, fun z => absurd e41 z, fun _ => ⟨⟨by omega, by omega⟩, ?_⟩⟩⟩
        rintro m1 e1
        have f1 : ∀ c i, ¬ (c = 167 ∧ i = (o : Int)) → m1 c i = m c i := fun c i z => by rw [e1]; exact up_o z
        have hd1 : (ps.drop ps.length).flatten.length = 0 := by rw [List.drop_length]; rfl
        have go := par ps.length (Nat.le_refl _) m1 T (some (.int (zI (m 176 (q + ((w.length : Int) + ((txP ps).length : Int) + 2) - 1))))) o5 o6 o7 o8 (TbR_cg (fun c i z => f1 c i (by omega)) (fun i => by rw [f1 _ _ (by omega)]; exact hb.1.2.2.1 i) hb) (Nat.le_refl _) (by omega) (fun c i z => f1 c i (by omega)) (by rw [e1, up_s]) (fun k hk1 hk2 => by omega)
        rw [List.take_length, show (h : Int) + (ps.length : Int) - (ps.length : Int) = (h : Int) by omega, show q + 1 + (w.length : Int) + ((txP ps).length : Int) = q + ((w.length : Int) + ((txP ps).length : Int) + 2) - 1 by omega] at go
        exact go
/-- the row at hand is read -/
theorem c_readRow {m : PM} {T : Nat} {cs : List Cd} {f : Nat} (H : RS μ) (hb : TbR m T) (hwf : wfS f cs) (hg : gnd cs) (hne : NeC cs) (hnx : ∀ c, c ∈ cs → ∃ x, nX m x c.2) (h80 : m 125 80 = ((tx cs).length : Int)) (hl : (tx cs).length ≤ 3000) (hr : RwS (m 176) 0 (tx cs)) (hc : cs.length ≤ 1100) (hT : T + cs.length ≤ 130000)
    (hk : ∀ (m' : PM) (T' u : Nat), T ≤ T' → T' ≤ T + cs.length → TbR m' T' → u < T' → Tg m' u cs → (∀ c j, ¬ (WMd T c j ∨ c = 166 ∨ c = 167) → m' c j = m c j) → Q (.inl (some (.int (zI (u : Int))))) (sA μ m' l)) :
    Wp (d + 2) 215 (0, [some (.ref 125), none, none, none, none, none, none, none, none], [], sA μ m l) Q := by
  refine R215_0 H ?_
  have go := rr_term (d := d) (l := l) (Q := Q) (row := m 176) H f cs hwf hg hne m T 0 0 0 none none none none none hb rfl hnx (Int.le_refl _) (by omega) hr (Or.inl rfl) (by omega) (by omega) hT (fun m' T' u o4 o5 o6 o7 o8 t1 t2 b' u1 u2 u3 fr => by
    refine R215_9 H ⟨⟨by omega, by omega⟩, fun _ => ?_, fun z => absurd (Int.le_refl _) z⟩
    have u3 : m' 166 0 = (u : Int) := u3
    rw [u3]
    exact hk m' T' u t1 t2 b' u1 u2 (fun c j z => fr c j (by omega)))
  rw [h80]
  rw [show (0 : Int) + ((tx cs).length : Int) = ((tx cs).length : Int) by omega] at go
  exact go
end RRC
