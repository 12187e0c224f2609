/-! ===== the reference: fits, fitsAtom, unbind ===== -/
section RF2
variable {d : Nat} {μ : am_Mem} {l : PM} {T : Nat} {x1 x2 lv : Int} {b0 : Nat → Option (List Cd)}
theorem ft_17 {m0 : PM} (H : RS μ) (hI : TtI m0 T) (hU : TtU m0 T) (hD : NmD m0) (h9 : m0 125 9 ≤ 1010) (hlv : 0 ≤ lv ∧ lv < 100) : ∀ (n : Nat) (m : PM) (b : Nat → Option (List Cd)) (L : List (List Cd × List Cd)) (Q : Option Value ⊕ Nat → am_Mem → Prop) (o5 o6 o7 o8 : Option Value), plz L ≤ n → n ≤ 1000 → (∀ c j, ¬ WFt c j → m c j = m0 c j) → PlR m T L → BdX m T lv b0 b →
    (∀ (m' : PM) (b' : Nat → Option (List Cd)), BdX m' T lv b0 b' → (∀ c j, ¬ WFt c j → m' c j = m0 c j) → (∀ v q, b v = some q → b' v = some q) → (∀ v, ¬ b' v = none → ¬ b v = none ∨ v < 8) → (∀ v : Nat, v < 8 → ¬ b v = none → m' 163 v = m 163 v ∧ m' 164 v = m 164 v) → (∀ β, Gb β → (Ext b' β ↔ (Ext b β ∧ ∀ p, p ∈ L → sbC β p.1 = p.2))) → (∀ p, p ∈ L → ∀ c, c ∈ p.1 → 5 ≤ c.1 → ¬ b' (c.1 - 5) = none) → Q (.inl (some (.int (zI 1)))) (sA μ m' l)) →
    (∀ (m' : PM) (b' : Nat → Option (List Cd)), BdX m' T lv b0 b' → (∀ c j, ¬ WFt c j → m' c j = m0 c j) → (∀ v : Nat, v < 8 → ¬ b v = none → m' 163 v = m 163 v ∧ m' 164 v = m 164 v) → (∀ β, Gb β → Ext b β → ¬ ∀ p, p ∈ L → sbC β p.1 = p.2) → Q (.inl (some (.int (zI 0)))) (sA μ m' l)) →
    Wp d 234 (17, [some (.ref 125), some (.int (zI x1)), some (.int (zI x2)), some (.int (zI lv)), some (.int (zI (L.length : Int))), o5, o6, o7, o8], [], sA μ m l) Q := by
  have hT := hI.2.1
  intro n
  induction n with
  | zero =>
    intro m b L Q o5 o6 o7 o8 hn _ fr hP hB hs hf
    have hl := plz_ge L (PlR_one hP)
    have e : L = [] := List.eq_nil_of_length_eq_zero (by omega)
    rw [e] at hs ⊢
    refine R234_17 H ⟨⟨by decide, by decide⟩, fun _ => hs m b hB fr (fun _ _ z => z) (fun _ z => Or.inl z) (fun _ _ _ => ⟨rfl, rfl⟩) (fun β _ => ⟨fun z => ⟨z, fun p hp => absurd hp List.not_mem_nil⟩, fun z => z.1⟩) (fun p hp => absurd hp List.not_mem_nil), fun z => absurd (by decide) z⟩
  | succ n ih =>
    intro m b L Q o5 o6 o7 o8 hn hn2 fr hP hB hs hf
    have hl := plz_ge L (PlR_one hP)
    rcases List.eq_nil_or_concat L with e | ⟨L', p, e⟩
    · rw [e] at hs ⊢
      refine R234_17 H ⟨⟨by decide, by decide⟩, fun _ => hs m b hB fr (fun _ _ z => z) (fun _ z => Or.inl z) (fun _ _ _ => ⟨rfl, rfl⟩) (fun β _ => ⟨fun z => ⟨z, fun p hp => absurd hp List.not_mem_nil⟩, fun z => z.1⟩) (fun p hp => absurd hp List.not_mem_nil), fun z => absurd (by decide) z⟩
    · rw [List.concat_eq_append] at e
      obtain ⟨cs, q⟩ := p
      rw [e] at hP hs hf hn hl ⊢
      have hlen : (L' ++ [(cs, q)]).length = L'.length + 1 := by rw [List.length_append, List.length_singleton]
      rw [plz_app] at hn hl
      have hz1 : plz [(cs, q)] = cs.length := by show cs.length + 0 = _; omega
      rw [hz1] at hn hl
      obtain ⟨k, t, a1, a2, a3, a4, a5, a6, a7⟩ := hP L'.length (by omega)
      rw [gDp_r] at a2 a3 a4 a7
      have a2 : 0 ≤ k ∧ k + (cs.length : Int) ≤ 1100 := a2
      have a3 : TmR 11 m k cs := a3
      have a4 : vbC cs := a4
      have a7 : Tg m t q := a7
      have hP' := PlR_front hP
      have hD' : NmD m := NmD_cg (fr _ _ (by omega)) (fun i => fr _ _ (by omega)) (fun i => fr _ _ (by omega)) hD
      have hU' : TtU m T := TtU_cg hI (fun t _ => fr _ _ (by omega)) (fun t _ => fr _ _ (by omega)) (fun i _ _ => fr _ _ (by omega)) hU
      have hcl := (TmR_top a3).1
      have mem : ∀ {P : List Cd × List Cd → Prop}, (∀ p, p ∈ L' ++ [(cs, q)] → P p) ↔ ((∀ p, p ∈ L' → P p) ∧ P (cs, q)) := fun {P} => ⟨fun h => ⟨fun p hp => h p (List.mem_append_left _ hp), h _ (by simp)⟩, fun h p hp => by
        rcases List.mem_append.mp hp with hp | hp
        · exact h.1 p hp
        · rw [List.mem_singleton.mp hp]; exact h.2⟩
      have hx4 : (((L' ++ [(cs, q)]).length : Nat) : Int) - 1 = (L'.length : Int) := by omega
      rcases TmR_cases a3 with ⟨a, w, ec, h5, e139⟩ | ⟨w, ps, ec, hpl, hnx, e139, e140, hkid⟩
      · have hv8 : a < 13 := a4 (a, w) (by rw [ec]; exact List.mem_singleton.mpr rfl) h5
        have ev : ((a - 5 : Nat) : Int) = (a : Int) - 5 := by omega
        have hsb : ∀ β : Nat → List Cd, sbC β cs = β (a - 5) := fun β => by rw [ec]; exact sbC_var β h5
        obtain ⟨c1, c2, c3, c4⟩ := hB (a - 5) (by omega)
        rw [ev] at c1 c2 c3 c4
        refine R234_17 H ⟨⟨by omega, by omega⟩, fun z => by omega, fun _ => ?_⟩
        rw [hx4, a1, a5, e139]
        refine ⟨⟨by omega, by omega⟩, ⟨by omega, by omega⟩, ⟨by omega, by omega⟩, fun z => by omega, fun _ => ?_⟩
        rintro v2 rfl
        cases hb : b (a - 5) with
        | some q' =>
          obtain ⟨⟨d1, d2⟩, u, d3, d4, d5⟩ := c2 q' hb
          refine ⟨⟨by omega, by omega⟩, ⟨by omega, by omega⟩, fun _ => ?_, fun z => absurd d1 z⟩
          refine R234_84 H ⟨⟨by omega, by omega⟩, by rw [d3]; exact ⟨by omega, by omega⟩, ⟨by omega, by omega⟩, fun z => ?_, fun z => ?_⟩
          · rw [d3] at z
            have eu : u = t := by omega
            rw [eu] at d5
            have eq := TgR_fun _ _ _ _ _ d5 a7
            refine ih m b L' Q _ _ _ _ (by omega) (by omega) fr hP' hB (fun m' b' y1 y2 y3 yA yB y4 y5 => hs m' b' y1 y2 y3 yA yB (fun β hβ => ?_) ?_) (fun m' b' y1 y2 yB y3 => hf m' b' y1 y2 yB (fun β hβ he z => y3 β hβ he (mem.mp z).1))
            · rw [y4 β hβ, mem]
              exact ⟨fun z => ⟨z.1, z.2, by show sbC β cs = q; rw [hsb, z.1 _ _ hb, eq]⟩, fun z => ⟨z.1, z.2.1⟩⟩
            · refine mem.mpr ⟨y5, fun c hc h5' => ?_⟩
              have ec' : c = (a, w) := by rw [ec] at hc; exact List.mem_singleton.mp hc
              rw [ec', y3 _ _ hb]
              exact fun z => nomatch z
          · refine hf m b hB fr (fun _ _ _ => ⟨rfl, rfl⟩) (fun β hβ he y => z ?_)
            have e1 : sbC β cs = q := (mem.mp y).2
            rw [hsb, he _ _ hb] at e1
            rw [e1] at d5
            rw [d3, Tg_in hU' hD' d4 a6 d5 a7]
        | none =>
          have e164 := c1 hb
          have hb0 : b0 (a - 5) = none := by
            cases h0 : b0 (a - 5) with
            | none => rfl
            | some q' => exact absurd (hb.symm.trans (c3 q' h0).1) (fun z => nomatch z)
          refine ⟨⟨by omega, by omega⟩, ⟨by omega, by omega⟩, fun z => by omega, fun _ => ?_⟩
          rintro m3 e3
          have f3 : ∀ c j, ¬ ((c = 163 ∨ c = 164) ∧ j = (a : Int) - 5) → m3 c j = m c j := fun c j z => by rw [e3, up_o (by omega), up_o (by omega)]
          have g163 : m3 163 ((a : Int) - 5) = (t : Int) := by rw [e3, up_c (by decide), up_s]
          have g164 : m3 164 ((a : Int) - 5) = lv := by rw [e3, up_s]
          have fr3 : ∀ c j, ¬ WFt c j → m3 c j = m0 c j := fun c j z => by rw [f3 c j (by omega)]; exact fr c j z
          have hB3 : BdX m3 T lv b0 (bnd b (a - 5) q) := by
            intro v hv
            by_cases z : v = a - 5
            · have evz : ((v : Nat) : Int) = (a : Int) - 5 := by omega
              rw [evz, g164, g163, z, bnd_s]
              refine ⟨(fun y => nomatch y), fun q' y => ⟨⟨by omega, by omega⟩, t, rfl, a6, ?_⟩, fun q' y => absurd (hb0.symm.trans y) (fun w => nomatch w), fun _ _ => rfl⟩
              rw [← Option.some.inj y]
              exact Tg_ft (fun c j z => f3 c j (by omega)) a7
            · obtain ⟨k1, k2, k3, k4⟩ := hB v hv
              rw [bnd_o b q z, f3 164 _ (by omega), f3 163 _ (by omega)]
              refine ⟨k1, fun q' y => ?_, k3, k4⟩
              obtain ⟨j1, u, j2, j3, j4⟩ := k2 q' y
              exact ⟨j1, u, j2, j3, Tg_ft (fun c j z => f3 c j (by omega)) j4⟩
          have keep : ∀ m' : PM, (∀ v : Nat, v < 8 → ¬ bnd b (a - 5) q v = none → m' 163 v = m3 163 v ∧ m' 164 v = m3 164 v) → ∀ v : Nat, v < 8 → ¬ b v = none → m' 163 v = m 163 v ∧ m' 164 v = m 164 v := fun m' yB v hv8 hv => by
            have z : ¬ v = a - 5 := fun z => hv (by rw [z]; exact hb)
            obtain ⟨k1, k2⟩ := yB v hv8 (by rw [bnd_o b q z]; exact hv)
            rw [k1, k2, f3 163 _ (by omega), f3 164 _ (by omega)]
            exact ⟨rfl, rfl⟩
          refine R234_84 H ⟨⟨by omega, by omega⟩, by rw [g163]; exact ⟨by omega, by omega⟩, ⟨by omega, by omega⟩, fun _ => ?_, fun z => absurd g163 z⟩
          refine ih m3 (bnd b (a - 5) q) L' Q _ _ _ _ (by omega) (by omega) fr3 (PlR_cg (fun c j z => f3 c j (by omega)) (fun i _ => f3 _ _ (by omega)) (fun i _ => f3 _ _ (by omega)) hP') hB3 (fun m' b' y1 y2 y3 yA yB y4 y5 => hs m' b' y1 y2 (fun v q' hv => y3 v q' ?_) (fun v hv => ?_) (fun v hv8 hv => keep m' yB v hv8 hv) (fun β hβ => ?_) ?_) (fun m' b' y1 y2 yB y3 => hf m' b' y1 y2 (fun v hv8 hv => keep m' yB v hv8 hv) (fun β hβ he z => y3 β hβ ((Ext_bnd hb).mpr ⟨he, ?_⟩) (mem.mp z).1))
          · rw [bnd_o b q (fun z => by rw [z, hb] at hv; cases hv)]
            exact hv
          · by_cases z : v = a - 5
            · exact Or.inr (by omega)
            · rcases yA v hv with y | y
              · rw [bnd_o b q z] at y
                exact Or.inl y
              · exact Or.inr y
          · rw [y4 β hβ, Ext_bnd hb, mem]
            show _ ↔ (Ext b β ∧ (∀ p, p ∈ L' → sbC β p.1 = p.2) ∧ sbC β cs = q)
            rw [hsb]
            exact ⟨fun z => ⟨z.1.1, z.2, z.1.2⟩, fun z => ⟨⟨z.1, z.2.2⟩, z.2.1⟩⟩
          · refine mem.mpr ⟨y5, fun c hc h5' => ?_⟩
            have ec' : c = (a, w) := by rw [ec] at hc; exact List.mem_singleton.mp hc
            rw [ec', y3 (a - 5) q (bnd_s b (a - 5) q)]
            exact fun z => nomatch z
          · have := (mem.mp z).2
            exact (hsb β).symm.trans this
      · obtain ⟨w', qs, eq, hql, hnx', e150, hqk⟩ := id a7
        have hnxr := hnx.2.1
        have hnxr' := hnx'.2.1
        have e9 : m 125 9 ≤ 1010 := by rw [fr _ _ (by omega)]; exact h9
        have hwq : ∀ p, p ∈ qs → wfS (t + 1) p := fun p hp => by
          obtain ⟨i, hi, ei⟩ := mem_gD2 hp
          obtain ⟨u, _, _, u3⟩ := hqk i hi
          rw [ei] at u3
          exact wfS_mono _ _ _ (by omega) (TgR_wf _ u p u3)
        have hwp : ∀ p, p ∈ ps → wfS 10 p := fun p hp => by
          obtain ⟨i, hi, ei⟩ := mem_gD2 hp
          have z := (hkid i hi).2.2
          rw [ei] at z
          exact TmR_wfS 10 _ p z
        have hmt : ∀ β, Gb β → (sbC β cs = q ↔ (w = w' ∧ ps.length = qs.length ∧ ∀ k, k < ps.length → sbC β (ps.getD k []) = qs.getD k [])) := fun β hβ => by rw [ec, eq]; exact mt_name hβ hwp hwq hpl
        refine R234_17 H ⟨⟨by omega, by omega⟩, fun z => by omega, fun _ => ?_⟩
        rw [hx4, a1, a5, e139]
        refine ⟨⟨by omega, by omega⟩, ⟨by omega, by omega⟩, ⟨by decide, by decide⟩, fun _ => ?_, fun z => absurd (by decide) z⟩
        rintro v1 rfl
        have hx1 := hnx.1
        have hx2 := hnx'.1
        refine ⟨⟨by omega, by omega⟩, ⟨by omega, by omega⟩, ⟨by omega, by omega⟩, fun z => ?_, fun z => ⟨by rw [e140]; exact ⟨by omega, by omega⟩, by rw [e150]; exact ⟨by omega, by omega⟩, fun z2 => ?_, fun z2 => ?_⟩⟩
        · refine hf m b hB fr (fun _ _ _ => ⟨rfl, rfl⟩) (fun β hβ he y => z ?_)
          exact (nX_inj hD' hnx hnx').mpr ((hmt β hβ).mp (mem.mp y).2).1
        · have ew : w = w' := (nX_inj hD' hnx hnx').mp (Classical.byContradiction z)
          have el : ps.length = qs.length := by rw [e140, e150] at z2; omega
          have hfl : cs.length = ps.flatten.length + 1 := by rw [ec]; rfl
          have hpz : plz (kz ps qs ps.length) = ps.flatten.length := by rw [plz_kz _ (Nat.le_refl _), List.take_length]
          have hge := plz_ge (kz ps qs ps.length) (fun p hp => by
            obtain ⟨i, hi, ei⟩ := kz_m.mp hp
            rw [ei]
            exact (TmR_top (hkid i hi).2.2).1)
          rw [kz_l, hpz] at hge
          have hL' := plz_ge L' (PlR_one hP')
          have z3 := ft_137 (d := d) (l := l) (Q := Q) (x1 := x1) (x2 := x2) (lv := lv) (m0 := m) (L := L') (ps := ps) (qs := qs) (k := k) (t := t) (T := T) (x7 := -1) H hpl (by omega) ⟨by omega, by omega⟩ a6 hT e140 (fun i hi => ?_) (fun i hi => ?_) (fun m1 g1 g2 o8 => ?_) ps.length 0 m (by omega) (fun _ _ _ => rfl) (by show PlR m T (L' ++ []); rw [List.append_nil]; exact hP')
          · rw [show (((L'.length + 0 : Nat)) : Int) = (L'.length : Int) by omega] at z3
            exact z3
          · obtain ⟨i1, i2, i3⟩ := hkid i hi
            refine ⟨by omega, by omega, TmR_mono 10 11 _ _ (by omega) i3, fun c hc => a4 c ?_⟩
            rw [ec]
            refine List.mem_cons_of_mem _ (List.mem_flatten.mpr ⟨ps.getD i [], ?_, hc⟩)
            rw [List.getD_eq_getElem?_getD, List.getElem?_eq_getElem hi]
            exact List.getElem_mem hi
          · obtain ⟨u, u1, u2, u3⟩ := hqk i (by omega)
            exact ⟨u, u1, by omega, Tg_of _ _ _ u3⟩
          · have hlen2 : (L' ++ kz ps qs ps.length).length = L'.length + ps.length := by rw [List.length_append, kz_l]
            have go := ih m1 b (L' ++ kz ps qs ps.length) Q (some (.int (zI k))) (some (.int (zI (t : Int)))) (some (.int (zI (-1)))) o8 (by rw [plz_app, hpz]; omega) (by omega) (fun c j y => by rw [g1 c j (by omega)]; exact fr c j y) g2 (BdX_cg (fun c j y => g1 c j (by omega)) (fun j => g1 _ _ (by omega)) (fun j => g1 _ _ (by omega)) hB) (fun m' b' y1 y2 y3 yA yB y4 y5 => hs m' b' y1 y2 y3 yA (fun v hv8 hv => by rw [(yB v hv8 hv).1, (yB v hv8 hv).2, g1 163 _ (by omega), g1 164 _ (by omega)]; exact ⟨rfl, rfl⟩) (fun β hβ => ?_) ?_) (fun m' b' y1 y2 yB y3 => hf m' b' y1 y2 (fun v hv8 hv => by rw [(yB v hv8 hv).1, (yB v hv8 hv).2, g1 163 _ (by omega), g1 164 _ (by omega)]; exact ⟨rfl, rfl⟩) (fun β hβ he y => y3 β hβ he ?_))
            · rw [hlen2] at go
              exact go
            · rw [y4 β hβ, mem]
              constructor
              · rintro ⟨v1, v2⟩
                refine ⟨v1, fun p hp => v2 p (List.mem_append_left _ hp), (hmt β hβ).mpr ⟨ew, el, fun i hi => ?_⟩⟩
                exact v2 (ps.getD i [], qs.getD i []) (List.mem_append_right _ (kz_m.mpr ⟨i, hi, rfl⟩))
              · rintro ⟨v1, v2, v3⟩
                refine ⟨v1, fun p hp => ?_⟩
                rcases List.mem_append.mp hp with hp | hp
                · exact v2 p hp
                · obtain ⟨i, hi, ei⟩ := kz_m.mp hp
                  rw [ei]
                  exact ((hmt β hβ).mp v3).2.2 i hi
            · refine mem.mpr ⟨fun p hp => y5 p (List.mem_append_left _ hp), fun c hc h5' => ?_⟩
              have hc' : c ∈ cs := hc
              rw [ec] at hc'
              rcases List.mem_cons.mp hc' with e0 | hc'
              · rw [e0] at h5'
                exact absurd h5' (by show ¬ 5 ≤ ps.length; omega)
              · obtain ⟨p, hp, hcp⟩ := List.mem_flatten.mp hc'
                obtain ⟨i, hi, ei⟩ := mem_gD2 hp
                exact y5 (ps.getD i [], qs.getD i []) (List.mem_append_right _ (kz_m.mpr ⟨i, hi, rfl⟩)) c (by show c ∈ ps.getD i []; rw [ei]; exact hcp) h5'
            · intro p hp
              rcases List.mem_append.mp hp with hp | hp
              · exact (mem.mp y).1 p hp
              · obtain ⟨i, hi, ei⟩ := kz_m.mp hp
                rw [ei]
                exact ((hmt β hβ).mp (mem.mp y).2).2.2 i hi
        · refine hf m b hB fr (fun _ _ _ => ⟨rfl, rfl⟩) (fun β hβ he y => z2 ?_)
          rw [e140, e150, ((hmt β hβ).mp (mem.mp y).2).2.1]
/-- a term of a rule against one without variables -/
theorem c_fits {m : PM} {b : Nat → Option (List Cd)} {Q : Option Value ⊕ Nat → am_Mem → Prop} {k : Int} {t : Nat} {cs q : List Cd} (H : RS μ) (hI : TtI m T) (hU : TtU m T) (hD : NmD m) (h9 : m 125 9 ≤ 1010) (hlv : 0 ≤ lv ∧ lv < 100) (hk : 0 ≤ k ∧ k + (cs.length : Int) ≤ 1000) (ht : TmR 11 m k cs) (hv : vbC cs) (hT : t < T) (hq : Tg m t q) (hB : BdX m T lv b0 b)
    (hs : ∀ (m' : PM) (b' : Nat → Option (List Cd)), BdX m' T lv b0 b' → (∀ c j, ¬ WFt c j → m' c j = m c j) → (∀ v q, b v = some q → b' v = some q) → (∀ v, ¬ b' v = none → ¬ b v = none ∨ v < 8) → (∀ v : Nat, v < 8 → ¬ b v = none → m' 163 v = m 163 v ∧ m' 164 v = m 164 v) → (∀ β, Gb β → (Ext b' β ↔ (Ext b β ∧ sbC β cs = q))) → (∀ c, c ∈ cs → 5 ≤ c.1 → ¬ b' (c.1 - 5) = none) → Q (.inl (some (.int (zI 1)))) (sA μ m' l))
    (hf : ∀ (m' : PM) (b' : Nat → Option (List Cd)), BdX m' T lv b0 b' → (∀ c j, ¬ WFt c j → m' c j = m c j) → (∀ v : Nat, v < 8 → ¬ b v = none → m' 163 v = m 163 v ∧ m' 164 v = m 164 v) → (∀ β, Gb β → Ext b β → ¬ sbC β cs = q) → Q (.inl (some (.int (zI 0)))) (sA μ m' l)) :
    Wp d 234 (0, [some (.ref 125), some (.int (zI k)), some (.int (zI (t : Int))), some (.int (zI lv)), none, none, none, none, none], [], sA μ m l) Q := by
  refine R234_0 H ?_
  rintro m1 e1
  have f1 : ∀ c j, ¬ (c = 166 ∨ c = 167) → m1 c j = m c j := fun c j z => by rw [e1, up_c (by omega), up_c (by omega)]
  have one : ∀ {P : List Cd × List Cd → Prop}, (∀ p, p ∈ [(cs, q)] → P p) ↔ P (cs, q) := fun {P} => ⟨fun h => h _ (List.mem_singleton.mpr rfl), fun h p hp => by rw [List.mem_singleton.mp hp]; exact h⟩
  have hl := (TmR_top ht).1
  have z := ft_17 (d := d) (l := l) (x1 := k) (x2 := (t : Int)) (lv := lv) (b0 := b0) (m0 := m) H hI hU hD h9 hlv cs.length m1 b [(cs, q)] Q none none none none (by show cs.length + 0 ≤ _; omega) (by omega) (fun c j z => f1 c j (by omega)) (by
    have z := PlR_snoc (T := T) (m := m1) (L := []) (cs := cs) (q := q) (k := k) (t := t) (fun i hi => absurd hi (Nat.not_lt_zero i)) (by show m1 166 0 = k; rw [e1, up_c (by decide), up_s]) (by show m1 167 0 = _; rw [e1, up_s]) ⟨hk.1, by omega⟩ (TmR_ft (fun c j z => f1 c j (by omega)) ht) hv hT (Tg_ft (fun c j z => f1 c j (by omega)) hq)
    exact z) (BdX_cg (fun c j z => f1 c j (by omega)) (fun j => f1 _ _ (by omega)) (fun j => f1 _ _ (by omega)) hB) (fun m' b' y1 y2 y3 yA yB y4 y5 => hs m' b' y1 y2 y3 yA (fun v hv8 hv => by rw [(yB v hv8 hv).1, (yB v hv8 hv).2, f1 163 _ (by omega), f1 164 _ (by omega)]; exact ⟨rfl, rfl⟩) (fun β hβ => by rw [y4 β hβ, one]) (one.mp y5)) (fun m' b' y1 y2 yB y3 => hf m' b' y1 y2 (fun v hv8 hv => by rw [(yB v hv8 hv).1, (yB v hv8 hv).2, f1 163 _ (by omega), f1 164 _ (by omega)]; exact ⟨rfl, rfl⟩) (fun β hβ he y => y3 β hβ he (one.mpr y)))
  exact z
end RF2
