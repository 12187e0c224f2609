/-! ===== the reference: workOut whole ===== -/
section RWP
variable {d : Nat} {μ : am_Mem} {l0 : PM} {C0 : Nat} {W : Int → Nat} {rs : List Rul} {B : List Atm} {Q : Option Value ⊕ Nat → am_Mem → Prop}
/-- a layer -/
theorem wo_layer {x1 : Int} {k : Nat} {lev : List Int → Nat} {m1 : PM} (H : RS μ) (hg : GoS rs) (hv1 : RV m1 rs) (hL : LvO lev rs) (hC : C0 + 85000 ≤ 130000) (hW : ∀ x w, nX m1 x w → W x = wdt rs w) (hhd : ∀ r, r < rs.length → m1 148 (m1 135 (m1 131 r)) = (lev (rs.getD r ruD).1.1 : Int)) (hLb : ∀ r, r < rs.length → lev (rs.getD r ruD).1.1 ≤ 480) (hx1 : iR x1) (hk : k ≤ 480)
    (hX : ∀ (m' l' : PM) (T' : Nat) (S : List Atm), (¬ ∃ S', EvG rs B S') → WkR W rs m' T' S → m' 125 56 = 1 → (∀ c j, ¬ WWi c j → m' c j = m1 c j) → (∀ c j, ¬ (c = 125 ∧ j = 57) → l' c j = l0 c j) → Q (.inl none) (sA μ m' l'))
    (hnext : ∀ (m : PM) (T : Nat) (S : List Atm) (o3 o4 : Option Value), EvS W rs B lev (k + 1) C0 m T S → m 125 56 = 0 → (∀ a, a ∈ B → a ∈ S) → (∀ c j, ¬ WWi c j → m c j = m1 c j) → (∀ r, r < rs.length → k < lev (rs.getD r ruD).1.1 → m 169 r = -1) → Wp (d + 8) 221 (30, [some (.ref 125), some (.int (zI x1)), some (.int (zI ((k : Int) + 1))), o3, o4], [], sA μ m l0) Q) :
    ∀ (g : Nat) (m : PM) (T : Nat) (S : List Atm) (o4 : Option Value), 1000 - S.length ≤ g → EvS W rs B lev k C0 m T S → m 125 56 = 0 → (∀ a, a ∈ B → a ∈ S) → (∀ c j, ¬ WWi c j → m c j = m1 c j) → (∀ r, r < rs.length → k < lev (rs.getD r ruD).1.1 → m 169 r = -1) → Trd lev k rs m S → Wp (d + 8) 221 (44, [some (.ref 125), some (.int (zI x1)), some (.int (zI (k : Int))), some (.int (zI 1)), o4], [], sA μ m l0) Q := by
  have hk1 : iR ((k : Int) + 1) := ⟨by omega, by omega⟩
  have hkR : iR (k : Int) := ⟨by omega, by omega⟩
  have hn1 := RV_n hv1
  intro g
  induction g using Nat.strongRecOn with
  | _ g ih =>
    intro m0 T0 S0 o4 hg0 hE0 h560 hB0 fr0 h1690 hT0
    refine R221_44 H ⟨⟨by decide, by decide⟩, fun z => absurd z (by decide), fun _ => ⟨by rw [h560]; exact ⟨by decide, by decide⟩, fun z => absurd h560 z, fun _ => ?_⟩⟩
    have pass : ∀ (f r : Nat) (m : PM) (T : Nat) (S : List Atm) (news : Int), r + f = rs.length → EvS W rs B lev k C0 m T S → m 125 56 = 0 → ExS lev k S0 S → (∀ c j, ¬ WWi c j → m c j = m1 c j) → (∀ r, r < rs.length → k < lev (rs.getD r ruD).1.1 → m 169 r = -1) → Trd lev k rs m S → news = bP (S0.length < S.length) → (S.length = S0.length → ∀ r', r' < r → lev (rs.getD r' ruD).1.1 = k → ∀ β, Gb β → (∀ i, i < (posR (rs.getD r' ruD)).length → sbA β ((posR (rs.getD r' ruD)).getD i ([], [])) ∈ S) → Dn (rs.getD r' ruD) S S β) → Wp (d + 8) 221 (60, [some (.ref 125), some (.int (zI x1)), some (.int (zI (k : Int))), some (.int (zI news)), some (.int (zI (r : Int)))], [], sA μ m l0) Q := by
      intro f
      induction f with
      | zero =>
        intro r m T S news hr hE h56 hx fr h169 hT hnw hdn
        have hn := RV_n hE.1.1
        have hS := hE.1.2.2.2.2.1.2.1
        have hl := ExS_l hx
        refine R221_60 H ⟨⟨by omega, by omega⟩, by rw [hn.1]; exact ⟨by omega, by omega⟩, fun _ => ?_, fun z => by rw [hn.1] at z; omega⟩
        by_cases hlt : S0.length < S.length
        · rw [hnw, bP_1 hlt]
          exact ih (1000 - S.length) (by omega) m T S _ (Nat.le_refl _) hE h56 (fun a ha => ExS_m hx (hB0 a ha)) fr h169 hT
        · rw [hnw, bP_0 hlt]
          have el : S.length = S0.length := by omega
          have hB : ∀ a, a ∈ B → a ∈ S := fun a ha => ExS_m hx (hB0 a ha)
          have clo : Clo rs (fun ru => lev ru.1.1 = k) S := fun ru hru hlv β hβ hf => by
            obtain ⟨r', h1, h2⟩ := (mem_gD rs ruD ru).mp hru
            have z := hdn el r' (by omega)
            rw [h2] at z
            refine z hlv β hβ (fun i hi => ?_) (fun c hc => ⟨(hf c hc).2.1, (hf c hc).2.2⟩)
            have hi' : i < (psC ru.2).length := by rw [← posR_l]; exact hi
            have hm := psC_mem.mp ((mem_gD (psC ru.2) cnD _).mpr ⟨i, hi', rfl⟩)
            rw [posR_g hi']
            exact (hf _ hm.1).1 hm.2
          exact R221_44 H ⟨⟨by decide, by decide⟩, fun _ => hnext m T S _ _ ⟨hE.1, Prt_up hE.2.1 clo (fun a ha _ => hB a ha), hE.2.2⟩ h56 hB fr h169, fun z => absurd rfl z⟩
      | succ f ihf =>
        intro r m T S news hr hE h56 hx fr h169 hT hnw hdn
        have hn := RV_n hE.1.1
        have hS := hE.1.2.2.2.2.1.2.1
        have hlt : r < rs.length := by omega
        have hru : rs.getD r ruD ∈ rs := (mem_gD rs ruD _).mpr ⟨r, hlt, rfl⟩
        have n01 : news = 0 ∨ news = 1 := by rw [hnw]; exact bP_b _
        have hnR : iR news := by rw [hnw]; exact bP_R _
        have hdr := RV_head hv1 hlt
        have hd2 := hdr.2.1
        have hd5 := hdr.2.2.2.2.1
        have e131 : m 131 (r : Int) = m1 131 (r : Int) := fr _ _ (by omega)
        have e135 : m 135 (m1 131 (r : Int)) = m1 135 (m1 131 (r : Int)) := fr _ _ (by omega)
        have e148 : m 148 (m1 135 (m1 131 (r : Int))) = (lev (rs.getD r ruD).1.1 : Int) := by rw [fr _ _ (by omega)]; exact hhd r hlt
        have h65 := hE.1.2.2.2.2.2.2
        have h51 := hE.1.2.1.2.2.1
        have goN : ¬ lev (rs.getD r ruD).1.1 = k → Wp (d + 8) 221 (60, [some (.ref 125), some (.int (zI x1)), some (.int (zI (k : Int))), some (.int (zI news)), some (.int (zI ((r : Int) + 1)))], [], sA μ m l0) Q := fun hne => by
          have go := ihf (r + 1) m T S news (by omega) hE h56 hx fr h169 hT hnw (fun el r' hr' hlv => by
            by_cases y : r' = r
            · rw [y] at hlv; exact absurd hlv hne
            · exact hdn el r' (by omega) hlv)
          rw [show ((r + 1 : Nat) : Int) = (r : Int) + 1 by omega] at go
          exact go
        have h148R : iR (m 148 (m1 135 (m1 131 (r : Int)))) := by
          rw [e148]
          exact ⟨by omega, by have := hLb r hlt; omega⟩
        refine R221_60 H ⟨⟨by omega, by omega⟩, by rw [hn.1]; exact ⟨by omega, by omega⟩, fun z => by rw [hn.1] at z; omega, fun _ => ⟨by rw [h56]; exact ⟨by decide, by decide⟩, fun z => absurd h56 z, fun _ => ⟨⟨by omega, by omega⟩, by rw [e131]; exact ⟨by omega, by omega⟩, by rw [e131, e135]; exact ⟨by omega, by omega⟩, by rw [e131, e135]; exact h148R, hkR, fun z => ?_, fun z => ?_⟩⟩⟩
        rotate_left
        · rw [e131, e135, e148] at z
          exact goN (by omega)
        rw [e131, e135, e148] at z
        have hlv : lev (rs.getD r ruD).1.1 = k := by omega
        have hneg : ∀ c, c ∈ (rs.getD r ruD).2 → c.1 = 2 → lev c.2.1 < k := fun c hc e => by
          have := (hL _ hru c hc).2 e
          omega
        refine ⟨_, _, c_room (d := d + 7) H hE.1 hlt, fun y μ' hp => ?_, fun _ _ z => z.elim⟩
        obtain ⟨rfl, rfl⟩ := hp
        have hrV : iR (rmV S (rs.getD r ruD)) := by
          unfold rmV
          split
          · exact ⟨by omega, by omega⟩
          · exact ⟨by decide, by decide⟩
        refine R221_107 H ⟨hrV, ?_⟩
        rintro v1 e1
        by_cases hle : rmA S (rs.getD r ruD) ≤ 300000
        rotate_left
        · /- no room -/
          have ev : rmV S (rs.getD r ruD) = 300001 := if_neg hle
          rw [ev, if_neg (by decide)] at e1
          refine ⟨fun _ => ?_, fun z => absurd (by rw [e1]; decide) z⟩
          rintro m2 e2
          refine ⟨hnR, ?_⟩
          rintro v3 e3
          have f2 : ∀ c j, ¬ (c = 125 ∧ j = 56) → m2 c j = m c j := fun c j z => by rw [e2]; exact up_o z
          have w2 : WkR W rs m2 T S := WkR_cg (fun c j z => f2 c j (by omega)) (fun j => by rw [f2 _ _ (by omega)]; exact h51 j) (fun j => by rw [f2 _ _ (by omega)]; exact h65 j) hE.1
          have e56 : m2 125 56 = 1 := by rw [e2, up_s, e1]
          refine wo_gt60 H hx1 hk1 (by rw [e3]; split <;> exact ⟨by decide, by decide⟩) ⟨by omega, by omega⟩ (by rw [(RV_n w2.1).1]; exact ⟨by omega, by omega⟩) e56 (fun l' fl => ?_)
          exact hX m2 l' T S (Prt_room hL hE.2.1 hru (by omega)) w2 e56 (fun c j z => by rw [f2 c j (by omega)]; exact fr c j z) fl
        have ev : rmV S (rs.getD r ruD) = (rmA S (rs.getD r ruD) : Int) := if_pos hle
        rw [ev, if_pos (by omega)] at e1
        refine ⟨fun z => absurd e1 z, fun _ => ?_⟩
        rintro m2 e2
        have f2 : ∀ c j, ¬ (c = 125 ∧ j = 56) → m2 c j = m c j := fun c j z => by rw [e2]; exact up_o z
        have e56 : m2 125 56 = 0 := by rw [e2, up_s, e1]
        have E2 : EvS W rs B lev k C0 m2 T S := EvS_cg (fun c j z => f2 c j (by omega)) (fun j => by rw [f2 _ _ (by omega)]; exact h51 j) (fun j => by rw [f2 _ _ (by omega)]; exact h65 j) hE
        have nx2 : ∀ {x : Int} {w : List Int}, nX m2 x w → nX m1 x w := fun {x w} h => nX_cg ((fr _ _ (by omega)).symm.trans (f2 _ _ (by omega)).symm) (fun i => (fr _ _ (by omega)).symm.trans (f2 _ _ (by omega)).symm) (fun i => (fr _ _ (by omega)).symm.trans (f2 _ _ (by omega)).symm) h
        refine ⟨fun y μ' => Wp (d + 8) 221 (134, [some (.ref 125), some (.int (zI x1)), some (.int (zI (k : Int))), some (.int (zI news)), some (.int (zI (r : Int)))], [.int y], μ') Q, noX, ?_, fun _ _ z => z, fun _ _ z => z.elim⟩
        refine c_tryRule (d := d) (Q := pI _ noX) H hlt hL hC (by omega) hneg (fun c hc h3 x hx' => by rw [hW x _ (nx2 hx')]; exact wdt_in hg (upA_c hlt hc h3)) (fun x hx' => by rw [hW x _ (nx2 hx')]; exact wdt_in hg (upA_h hlt)) (RuF_of hg hlt) E2 e56 ?_ (fun m' T' S' news' E' e56' x' _ fr' e169' dn' n' => ?_) (fun m' T' S' news' hno w' e56' n01' fr' => ?_)
        · rw [f2 169 _ (by omega)]
          exact hT r hlt hlv
        · have frm : ∀ c j, ¬ WWi c j → m' c j = m1 c j := fun c j z => by rw [fr' c j (by omega), f2 c j (by omega)]; exact fr c j z
          have n01' : news' = 0 ∨ news' = 1 := by rw [n']; exact bP_b _
          have hl0 := ExS_l hx
          have hl1 := ExS_l x'
          refine R221_134 H ⟨by rw [n']; exact bP_R _, ⟨fun _ => trivial, fun _ => ⟨hnR, trivial⟩⟩, ?_⟩
          rintro v5 e5
          have en : v5 = bP (S0.length < S'.length) := by
            by_cases y1 : S.length < S'.length
            · rw [n', bP_1 y1, if_pos (by decide)] at e5
              rw [e5, bP_1 (by omega)]
            · rw [n', bP_0 y1, if_neg (by decide)] at e5
              by_cases y2 : S0.length < S.length
              · rw [hnw, bP_1 y2, if_neg (by decide)] at e5
                rw [e5, bP_1 (by omega)]
              · rw [hnw, bP_0 y2, if_pos rfl] at e5
                rw [e5, bP_0 (by omega)]
          have T1 : Trd lev k rs m' S' := fun r' hr' hlv' => by
            by_cases y : r' = r
            · rw [y]
              refine Or.inr ⟨S.length, e169', hl1, fun β hβ hin => ?_⟩
              refine Dn_st x' hneg (fun a ha => ha) (dn' β hβ (fun i hi => ?_))
              obtain ⟨a, a1, a2⟩ := hin i hi
              rw [ExS_g x' a1] at a2
              rw [← a2]
              exact gA_mem a1
            · have e9 : m' 169 (r' : Int) = m 169 (r' : Int) := by rw [fr' _ _ (by omega), f2 _ _ (by omega)]
              rw [e9]
              rcases hT r' hr' hlv' with z | ⟨old, z1, z2, z3⟩
              · exact Or.inl z
              · refine Or.inr ⟨old, z1, by omega, fun β hβ hin => ?_⟩
                refine Dn_st x' (fun c hc e => ?_) (fun a ha => ExS_m x' ha) (z3 β hβ (fun i hi => ?_))
                · have := (hL _ ((mem_gD rs ruD _).mpr ⟨r', hr', rfl⟩) c hc).2 e
                  omega
                · obtain ⟨a, a1, a2⟩ := hin i hi
                  exact ⟨a, a1, by rw [← a2, ExS_g x' (by omega)]⟩
          have go := ihf (r + 1) m' T' S' v5 (by omega) E' e56' (ExS_t hx x') frm (fun r' hr' hlv' => by
            have y : ¬ r' = r := fun e => by rw [e] at hlv'; omega
            rw [fr' _ _ (by omega), f2 _ _ (by omega)]
            exact h169 r' hr' hlv') T1 en (fun el r' hr' hlv' => by
            have eS : S' = S := ExS_e x' (by omega)
            by_cases y : r' = r
            · rw [y]
              intro β hβ hin
              refine Dn_st x' hneg (fun a ha => ha) (dn' β hβ (fun i hi => ?_))
              rw [← eS]
              exact hin i hi
            · rw [eS]
              exact hdn (by omega) r' (by omega) hlv')
          rw [show ((r + 1 : Nat) : Int) = (r : Int) + 1 by omega] at go
          exact go
        · have frm : ∀ c j, ¬ WWi c j → m' c j = m1 c j := fun c j z => by rw [fr' c j (by omega), f2 c j (by omega)]; exact fr c j z
          refine R221_134 H ⟨by rcases n01' with e | e <;> (rw [e]; exact ⟨by decide, by decide⟩), ⟨fun _ => trivial, fun _ => ⟨hnR, trivial⟩⟩, ?_⟩
          rintro v5 e5
          have hv5 : iR v5 := by
            rw [e5]
            split
            · exact ⟨by decide, by decide⟩
            · split <;> exact ⟨by decide, by decide⟩
          exact wo_gt60 H hx1 hk1 hv5 ⟨by omega, by omega⟩ (by rw [(RV_n w'.1).1]; exact ⟨by omega, by omega⟩) e56' (fun l' fl => hX m' l' T' S' hno w' e56' frm fl)
    have go := pass rs.length 0 m0 T0 S0 0 (by omega) hE0 h560 ExS_r fr0 h1690 hT0 (bP_0 (by omega)).symm (fun _ r' hr' => absurd hr' (Nat.not_lt_zero r'))
    exact go
end RWP
