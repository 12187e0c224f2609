/-! ===== the reference: tryPass, what is carried along ===== -/
/-- a rule's positive conditions in the memory -/
def PosM (W : Int → Nat) (m : PM) (pos : List Atm) : Prop := m 125 58 = (pos.length : Int) ∧ pos.length ≤ 8 ∧ ∀ i : Nat, i < pos.length → AtN m (m 161 i) (pos.getD i ([], [])).2 ∧ nX m (m 135 (m 161 i)) (pos.getD i ([], [])).1 ∧ W (m 135 (m 161 i)) = (pos.getD i ([], [])).2.length ∧ ∀ p, p ∈ (pos.getD i ([], [])).2 → vbC p
theorem PosM_cg {W : Int → Nat} {m m' : PM} {pos : List Atm} (k : ∀ c j, (SRr c j ∨ c = 161 ∨ (c = 125 ∧ j = 58)) → m' c j = m c j) (h : PosM W m pos) : PosM W m' pos := by
  obtain ⟨h1, h2, h3⟩ := h
  refine ⟨by rw [k _ _ (by omega)]; exact h1, h2, fun i hi => ?_⟩
  obtain ⟨a1, a2, a3, a4⟩ := h3 i hi
  rw [k 161 _ (by omega), k 135 _ (by omega)]
  exact ⟨AtN_cg (fun c j z => k c j (Or.inl z)) a1, nX_cg (k _ _ (by omega)) (fun i => k _ _ (by omega)) (fun i => k _ _ (by omega)) a2, a3, a4⟩
/-- variables of terms that the positive conditions bind -/
def VrP (pos : List Atm) (p : List Cd) : Prop := ∀ c, c ∈ p → 5 ≤ c.1 → c.1 < 13 ∧ ∃ i, i < pos.length ∧ ∃ q, q ∈ (pos.getD i ([], [])).2 ∧ ∃ c', c' ∈ q ∧ c'.1 = c.1
/-- what is known of a rule -/
def RuF (ru : Rul) (pos : List Atm) : Prop := (∀ p, p ∈ ru.1.2 → VrP pos p ∧ NeC p ∧ wC p ≤ 2000 ∧ p.length ≤ 1000) ∧ (∀ c, c ∈ ru.2 → ¬ c.1 = 1 → ∀ p, p ∈ c.2.2 → VrP pos p) ∧ ru.1.2.length ≤ 4 ∧ (∀ c, c ∈ ru.2 → c.1 = 1 → ∃ i, i < pos.length ∧ pos.getD i ([], []) = c.2) ∧ ∀ c, c ∈ ru.2 → c.1 = 3 → c.2.2.length = 2
/-- working out goes on: the layers below k are done -/
def EvS (W : Int → Nat) (rs : List Rul) (B : List Atm) (lev : List Int → Nat) (k C0 : Nat) (m : PM) (T : Nat) (S : List Atm) : Prop := WkR W rs m T S ∧ Prt rs B lev k S ∧ (∀ a, a ∈ S → ∀ p, p ∈ a.2 → tlC p ≤ 48 ∧ NeC p) ∧ T ≤ C0 + 76 * S.length
/-- more atoms of this layer -/
def ExS (lev : List Int → Nat) (k : Nat) (S0 S : List Atm) : Prop := ∃ L, S = S0 ++ L ∧ ∀ a, a ∈ L → k ≤ lev a.1
theorem ExS_r {lev : List Int → Nat} {k : Nat} {S : List Atm} : ExS lev k S S := ⟨[], by rw [List.append_nil], fun a ha => absurd ha List.not_mem_nil⟩
theorem ExS_t {lev : List Int → Nat} {k : Nat} {S S1 S2 : List Atm} (h : ExS lev k S S1) (h' : ExS lev k S1 S2) : ExS lev k S S2 := by
  obtain ⟨L, e, h1⟩ := h
  obtain ⟨L', e', h2⟩ := h'
  refine ⟨L ++ L', by rw [e', e, List.append_assoc], fun a ha => ?_⟩
  rcases List.mem_append.mp ha with ha | ha
  · exact h1 a ha
  · exact h2 a ha
theorem ExS_m {lev : List Int → Nat} {k : Nat} {S S1 : List Atm} (h : ExS lev k S S1) {a : Atm} (ha : a ∈ S) : a ∈ S1 := by
  obtain ⟨L, e, _⟩ := h
  rw [e]
  exact List.mem_append_left _ ha
theorem ExS_l {lev : List Int → Nat} {k : Nat} {S S1 : List Atm} (h : ExS lev k S S1) : S.length ≤ S1.length := by
  obtain ⟨L, e, _⟩ := h
  rw [e, List.length_append]
  omega
theorem ExS_g {lev : List Int → Nat} {k : Nat} {S S1 : List Atm} (h : ExS lev k S S1) {i : Nat} (hi : i < S.length) : S1.getD i ([], []) = S.getD i ([], []) := by
  obtain ⟨L, e, _⟩ := h
  rw [e, List.getD_eq_getElem?_getD, List.getD_eq_getElem?_getD, List.getElem?_append_left hi]
/-- negative conditions are known ahead -/
theorem Oth_st {lev : List Int → Nat} {k : Nat} {S S1 : List Atm} (h : ExS lev k S S1) {c : Nat × Atm} (hl : c.1 = 2 → lev c.2.1 < k) {β : Nat → List Cd} : Oth β S1 c ↔ Oth β S c := by
  unfold Oth
  refine and_congr ⟨fun z e y => z e (ExS_m h y), fun z e y => ?_⟩ Iff.rfl
  obtain ⟨L, eS, hL⟩ := h
  rw [eS] at y
  rcases List.mem_append.mp y with y | y
  · exact z e y
  · have a := hL _ y
    have b := hl e
    rw [sbA_1] at a
    omega
theorem Oth_ag {S : List Atm} {c : Nat × Atm} {β β' : Nat → List Cd} (h2 : c.1 = 3 → c.2.2.length = 2) (h : ¬ c.1 = 1 → ∀ p, p ∈ c.2.2 → ∀ x, x ∈ p → 5 ≤ x.1 → β (x.1 - 5) = β' (x.1 - 5)) : Oth β S c ↔ Oth β' S c := by
  unfold Oth
  refine and_congr ⟨fun z e => ?_, fun z e => ?_⟩ ⟨fun z e => ?_, fun z e => ?_⟩
  · rw [← sbA_agree (h (by omega))]; exact z e
  · rw [sbA_agree (h (by omega))]; exact z e
  · have hl := h2 e
    have g : ∀ i, i < 2 → c.2.2.getD i [] ∈ c.2.2 := fun i hi => by
      rw [List.getD_eq_getElem?_getD, List.getElem?_eq_getElem (by omega)]
      exact List.getElem_mem _
    rw [← sb_agree _ (h (by omega) _ (g 0 (by decide))), ← sb_agree _ (h (by omega) _ (g 1 (by decide)))]
    exact z e
  · have hl := h2 e
    have g : ∀ i, i < 2 → c.2.2.getD i [] ∈ c.2.2 := fun i hi => by
      rw [List.getD_eq_getElem?_getD, List.getElem?_eq_getElem (by omega)]
      exact List.getElem_mem _
    rw [sb_agree _ (h (by omega) _ (g 0 (by decide))), sb_agree _ (h (by omega) _ (g 1 (by decide)))]
    exact z e
/-- bindings after the first positive conditions -/
def BLv (pos : List Atm) (b : Nat → Option (List Cd)) (lv : Nat) (S : List Atm) : Prop := (∀ i, i < lv → ∀ q, q ∈ (pos.getD i ([], [])).2 → ∀ c, c ∈ q → 5 ≤ c.1 → ¬ b (c.1 - 5) = none) ∧ (∀ β, Gb β → Ext b β → ∀ i, i < lv → sbA β (pos.getD i ([], [])) ∈ S) ∧ ∀ v, ¬ b v = none → v < 8
/-- the rule has been fired with these bindings -/
def Dn (ru : Rul) (S0 S : List Atm) (β : Nat → List Cd) : Prop := (∀ c, c ∈ ru.2 → Oth β S0 c) → sbA β ru.1 ∈ S
/-- what a pass may write -/
abbrev WTp (c : Nat) (j : Int) : Prop := WFi c j ∨ c = 162 ∨ c = 163 ∨ c = 164
/-- what is left as it was when a level is left -/
def RtB (m m' : PM) (lv : Nat) (b : Nat → Option (List Cd)) : Prop := (∀ v : Nat, v < 8 → ¬ b v = none → m' 163 v = m 163 v ∧ m' 164 v = m 164 v) ∧ (∀ v : Nat, v < 8 → b v = none → m' 164 v = -1 ∨ ((lv : Int) ≤ m' 164 v ∧ m' 164 v < 100)) ∧ ∀ i : Nat, i < lv → m' 162 i = m 162 i
section RP1
variable {d : Nat} {μ : am_Mem} {l : PM} {T C0 k lv : Nat} {W : Int → Nat} {rs : List Rul} {B S0 S : List Atm} {lev : List Int → Nat} {pos : List Atm} {b : Nat → Option (List Cd)}
theorem BdL_rt {m m' : PM} {T' : Nat} (hT : T ≤ T') (tg : ∀ (u : Nat) (q : List Cd), u < T → Tg m u q → Tg m' u q) (h : BdL m T (lv : Int) b) (hr : RtB m m' lv b) : BdL m' T' (lv : Int) b := by
  intro v hv
  obtain ⟨a1, a2⟩ := h v hv
  refine ⟨fun e => hr.2.1 v hv e, fun q e => ?_⟩
  obtain ⟨c1, u, c2, c3, c4⟩ := a2 q e
  obtain ⟨r1, r2⟩ := hr.1 v hv (by rw [e]; exact fun z => nomatch z)
  rw [r1, r2]
  exact ⟨c1, u, c2, by omega, tg u q c3 c4⟩
/-- all positive conditions are fulfilled: the rule is fired -/
theorem tp_fire {m : PM} {r : Nat} {news : Int} {Q : Option Value ⊕ Nat → am_Mem → Prop} (H : RS μ) (hr : r < rs.length) (hL : LvO lev rs) (hC : C0 + 85000 ≤ 130000) (hk : k ≤ lev (rs.getD r ruD).1.1) (hneg : ∀ c, c ∈ (rs.getD r ruD).2 → c.1 = 2 → lev c.2.1 < k) (hWd : ∀ c, c ∈ (rs.getD r ruD).2 → c.1 < 3 → ∀ x, nX m x c.2.1 → W x = c.2.2.length) (hWh : ∀ x, nX m x (rs.getD r ruD).1.1 → W x = (rs.getD r ruD).1.2.length) (hF : RuF (rs.getD r ruD) pos) (hE : EvS W rs B lev k C0 m T S) (h56 : m 125 56 = 0) (hx : ExS lev k S0 S) (hB : BdL m T (pos.length : Int) b) (hBL : BLv pos b pos.length S) (hnw : news = bP (S0.length < S.length))
    (hret : ∀ (m' : PM) (T' : Nat) (S' : List Atm) (y news' : Int), iR y → news' = bP (S0.length < S'.length) → news' = (if ¬ y = 0 then 1 else if news = 0 then 0 else 1) → EvS W rs B lev k C0 m' T' S' → m' 125 56 = 0 → ExS lev k S S' → T ≤ T' → (∀ (u : Nat) (q : List Cd), u < T → Tg m u q → Tg m' u q) → (∀ c j, ¬ WFi c j → m' c j = m c j) → (∀ β, Gb β → Ext b β → Dn (rs.getD r ruD) S0 S' β) → Q (.inl (some (.int (zI y)))) (sA μ m' l))
    (hX : ∀ (m' : PM) (T' : Nat), (¬ ∃ S', EvG rs B S') → WkR W rs m' T' S → m' 125 56 = 1 → (∀ c j, ¬ WFi c j → m' c j = m c j) → Q (.inl (some (.int (zI 0)))) (sA μ m' l)) :
    Wp (d + 5) 227 (0, [some (.ref 125), some (.int (zI (r : Int))), none, none, none], [], sA μ m l) Q := by
  obtain ⟨hw, hP, h48, hTb⟩ := id hE
  have hS1000 := hw.2.2.2.2.1.2.1
  have hTT := hw.2.1.2.1
  have hgb : ∀ v q, b v = some q → wfS T q ∧ gnd q := fun v q e => by
    obtain ⟨_, u, _, u2, u3⟩ := (hB v (hBL.2.2 v (by rw [e]; exact fun z => nomatch z))).2 q e
    exact ⟨wfS_mono _ _ _ (by omega) (TgR_wf _ u q u3), TgR_gnd _ u q u3⟩
  have hβ : Gb (fulB b) := fulB_g hgb
  have hex := fulB_e b
  have hpos : ∀ i, i < pos.length → sbA (fulB b) (pos.getD i ([], [])) ∈ S := fun i hi => hBL.2.1 _ hβ hex i hi
  have vr : ∀ p, VrP pos p → VrI (fun v => ¬ b v = none) p := fun p hp c hc h5 => by
    obtain ⟨c1, i, hi, q, hq, c', hc', e⟩ := hp c hc h5
    refine ⟨c1, ?_⟩
    have z := hBL.1 i hi q hq c' hc' (by omega)
    rw [e] at z
    exact z
  have ag : ∀ β, Ext b β → ∀ p, VrP pos p → ∀ c, c ∈ p → 5 ≤ c.1 → β (c.1 - 5) = fulB b (c.1 - 5) := fun β he p hp c hc h5 => by
    have z := (vr p hp c hc h5).2
    cases e : b (c.1 - 5) with
    | none => exact absurd e z
    | some q => rw [he _ _ e, hex _ _ e]
  have hb : VbO (fulB b) m T (fun v => ¬ b v = none) := fun v hv hV => by
    cases e : b v with
    | none => exact absurd e hV
    | some q =>
      obtain ⟨_, u, u1, u2, u3⟩ := (hB v hv).2 q e
      rw [hex v q e]
      exact ⟨u, u1, u2, u3⟩
  have bnd48 : ∀ p, VrP pos p → ∀ c, c ∈ p → 5 ≤ c.1 → (0 ≤ tlC (fulB b (c.1 - 5)) ∧ tlC (fulB b (c.1 - 5)) ≤ 48) ∧ NeC (fulB b (c.1 - 5)) := fun p hp c hc h5 => by
    obtain ⟨c1, i, hi, q, hq, c', hc', e⟩ := hp c hc h5
    have hm := h48 _ (hpos i hi) (sbC (fulB b) q) (List.mem_map.mpr ⟨q, hq, rfl⟩)
    have z := sb_tl_v (β := fulB b) q c' hc' (by omega)
    rw [e] at z
    refine ⟨⟨tl_0 _, by omega⟩, fun x hx' h5' => ?_⟩
    refine hm.2 x (sb_var hc' (by omega) ?_) h5'
    rw [e]
    exact hx'
  have oth : ∀ β, Ext b β → ((∀ c, c ∈ (rs.getD r ruD).2 → Oth β S0 c) ↔ ∀ c, c ∈ (rs.getD r ruD).2 → Oth (fulB b) S c) := fun β he => by
    constructor
    · intro h c hc
      refine (Oth_st hx (hneg c hc)).mpr ((Oth_ag (hF.2.2.2.2 c hc) (fun e p hp => ?_)).mp (h c hc))
      exact ag β he p (hF.2.1 c hc e p hp)
    · intro h c hc
      refine (Oth_ag (hF.2.2.2.2 c hc) (fun e p hp => ?_)).mpr ((Oth_st hx (hneg c hc)).mp (h c hc))
      exact ag β he p (hF.2.1 c hc e p hp)
  have hdA : ∀ β, Ext b β → sbA β (rs.getD r ruD).1 = sbA (fulB b) (rs.getD r ruD).1 := fun β he => sbA_agree (fun p hp => ag β he p (hF.1 p hp).1)
  have rsn : (∀ c, c ∈ (rs.getD r ruD).2 → Oth (fulB b) S c) → Rsn rs B lev k S (sbA (fulB b) (rs.getD r ruD).1) := fun ho => by
    refine Or.inr ⟨rs.getD r ruD, (mem_gD rs ruD _).mpr ⟨r, hr, rfl⟩, fulB b, hβ, rfl, fun c hc => ⟨fun e => ?_, fun e z => ?_, (ho c hc).2⟩⟩
    · obtain ⟨i, hi, ei⟩ := hF.2.2.2.1 c hc e
      rw [← ei]
      exact hpos i hi
    · rcases z with z | z
      · exact (ho c hc).1 e z
      · have := hneg c hc e
        rw [sbA_1] at z
        omega
  have hkA : k ≤ lev (sbA (fulB b) (rs.getD r ruD).1).1 := hk
  have n01 : news = 0 ∨ news = 1 := by rw [hnw]; exact bP_b _
  have nw0 : news = (if ¬ (0 : Int) = 0 then 1 else if news = 0 then 0 else 1) := by
    rw [if_neg (fun z => z rfl)]
    rcases n01 with e | e
    · rw [if_pos e]; exact e
    · rw [if_neg (by omega)]; exact e
  refine c_fire (V := fun v => ¬ b v = none) (β := fulB b) H hw h56 (by omega) hβ hr hWd hWh (fun c hc e p hp => vr p (hF.2.1 c hc e p hp)) (fun p hp => vr p (hF.1 p hp).1) hb (fun p hp => ?_) (fun m' hno w' e56 tg fr => ?_) (fun m' ho hlong w' e56 fr => ?_) (fun m' ho hm w' e56 tg fr => ?_) (fun m' T' ho hno h1000 t1 w' e56 fr => ?_) (fun m' T' ho hlen hno hlt t1 t2 w' e56 tg fr => ?_)
  · have hp4 := hF.1 p hp
    have z := sb_tl (β := fulB b) p (fun c hc h5 => (bnd48 p hp4.1 c hc h5).1)
    exact ⟨by omega, by omega⟩
  · exact hret m' T S 0 news ⟨by decide, by decide⟩ hnw nw0 ⟨w', hP, h48, hTb⟩ e56 ExS_r (Nat.le_refl _) tg fr (fun β hβ' he ho => absurd ((oth β he).mp ho) hno)
  · exact hX m' T (Prt_long hL hP hkA (rsn ho) (by obtain ⟨p, p1, p2⟩ := hlong; exact ⟨p, p1, p2⟩)) w' e56 fr
  · exact hret m' T S 0 news ⟨by decide, by decide⟩ hnw nw0 ⟨w', hP, h48, hTb⟩ e56 ExS_r (Nat.le_refl _) tg fr (fun β hβ' he ho => by rw [hdA β he]; exact hm)
  · exact hX m' T' (Prt_many hL hP hkA hno (rsn ho) (by omega)) w' e56 fr
  · have hcnt : (rs.getD r ruD).1.2.flatten.length ≤ 76 := by
      have h19 : ∀ p, p ∈ (rs.getD r ruD).1.2 → p.length ≤ 19 := fun p hp => by
        have hp4 := hF.1 p hp
        have hne : NeC (sbC (fulB b) p) := sb_ne hp4.2.1 (fun c hc h5 => (bnd48 p hp4.1 c hc h5).2)
        obtain ⟨i, hi, ei⟩ := mem_gD2 hp
        have hm' : sbA (fulB b) (rs.getD r ruD).1 ∈ S ++ [sbA (fulB b) (rs.getD r ruD).1] := by simp
        obtain ⟨j, hj, ej⟩ := gA_ex hm'
        obtain ⟨_, _, b3⟩ := w'.2.2.2.2.2.1 j hj
        rw [ej] at b3
        obtain ⟨u, _, u2, u3⟩ := b3 i (by show i < ((rs.getD r ruD).1.2.map (sbC (fulB b))).length; rw [List.length_map]; exact hi)
        have u3 : Tg m' u (((rs.getD r ruD).1.2.map (sbC (fulB b))).getD i []) := u3
        rw [map_gD hi, ei] at u3
        have z1 := cd_19 (TgR_wf _ u _ u3) (TgR_gnd _ u _ u3) hne (hlen _ (List.mem_map.mpr ⟨p, hp, rfl⟩))
        have z2 := sb_len (β := fulB b) (fun v => by
          obtain ⟨f, hf⟩ := hβ.1
          have := hf v
          cases hv : fulB b v with
          | nil =>
            rw [hv] at this
            cases f with
            | zero => exact absurd this (fun z => z)
            | succ f => exact absurd this (fun z => z)
          | cons c cs => rw [List.length_cons]; omega) p
        omega
      have key : ∀ L : List (List Cd), (∀ p, p ∈ L → p.length ≤ 19) → L.flatten.length ≤ 19 * L.length := by
        intro L
        induction L with
        | nil => intro _; exact Nat.le_refl _
        | cons p L ih =>
          intro h
          have a := h p List.mem_cons_self
          have b' := ih (fun q hq => h q (List.mem_cons_of_mem _ hq))
          rw [List.flatten_cons, List.length_append, List.length_cons]
          omega
      have z := key _ h19
      have := hF.2.2.1
      omega
    have hlS : (S ++ [sbA (fulB b) (rs.getD r ruD).1]).length = S.length + 1 := by rw [List.length_append, List.length_singleton]
    have hxl := ExS_l hx
    refine hret m' T' (S ++ [sbA (fulB b) (rs.getD r ruD).1]) 1 1 ⟨by decide, by decide⟩ (bP_1 (by rw [hlS]; omega)).symm (by rw [if_pos (by decide)]) ⟨w', Prt_add hL hP hkA hno (rsn ho), fun a ha p hp => ?_, by rw [hlS]; omega⟩ e56 ⟨[sbA (fulB b) (rs.getD r ruD).1], rfl, fun a ha => by rw [List.mem_singleton.mp ha]; exact hkA⟩ t1 tg fr (fun β hβ' he _ => by rw [hdA β he]; simp)
    rcases List.mem_append.mp ha with ha | ha
    · exact h48 a ha p hp
    · rw [List.mem_singleton.mp ha] at hp
      refine ⟨hlen p hp, ?_⟩
      obtain ⟨p', q1, q2⟩ := List.mem_map.mp (show p ∈ (rs.getD r ruD).1.2.map (sbC (fulB b)) from hp)
      have hp4 := hF.1 p' q1
      rw [← q2]
      exact sb_ne hp4.2.1 (fun c hc h5 => (bnd48 p' hp4.1 c hc h5).2)
end RP1
