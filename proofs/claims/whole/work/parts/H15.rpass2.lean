/-! ===== the reference: tryPass, level by level ===== -/
/-- atoms among the first F0 for the conditions from lv on; those ahead of the pass below old, its own not -/
def Cmb (pos S0 : List Atm) (F0 old : Nat) (ps : Int) (lv : Nat) (β : Nat → List Cd) : Prop := ∀ i, lv ≤ i → i < pos.length → ∃ a : Nat, a < F0 ∧ S0.getD a ([], []) = sbA β (pos.getD i ([], [])) ∧ ((i : Int) < ps → a < old) ∧ ((i : Int) = ps → old ≤ a)
def Rq (pos S0 : List Atm) (F0 old : Nat) (ps : Int) (lv : Nat) (c : Int) (β : Nat → List Cd) : Prop := lv < pos.length → (Cmb pos S0 F0 old ps (lv + 1) β ∧ ∃ a : Nat, a < F0 ∧ 0 ≤ c ∧ c ≤ (a : Int) ∧ S0.getD a ([], []) = sbA β (pos.getD lv ([], [])) ∧ ((lv : Int) < ps → a < old))
/-- an atom of a relation, or none -/
def ChO (S : List Atm) (w : List Int) (c : Int) : Prop := c = -1 ∨ ∃ a : Nat, c = (a : Int) ∧ a < S.length ∧ (S.getD a ([], [])).1 = w
theorem ChO_x {lev : List Int → Nat} {k : Nat} {S S' : List Atm} {w : List Int} {c : Int} (hx : ExS lev k S S') (h : ChO S w c) : ChO S' w c := by
  rcases h with h | ⟨a, h1, h2, h3⟩
  · exact Or.inl h
  · exact Or.inr ⟨a, h1, by have := ExS_l hx; omega, by rw [ExS_g hx h2]; exact h3⟩
section RP2
variable {d : Nat} {μ : am_Mem} {l : PM} {T C0 k : Nat} {W : Int → Nat} {rs : List Rul} {B S0 : List Atm} {lev : List Int → Nat} {pos : List Atm} {ps pf : Int}
/-- a level is begun -/
theorem c_begin {m : PM} {lv : Nat} (H : RS μ) (hP : PosM W m pos) (h9 : m 125 9 ≤ 1010) (e68 : m 125 68 = ps) (hps : -1 ≤ ps ∧ ps < 100) (e69 : m 125 69 = pf) (hlv : lv < 100) : Wp d 226 (0, [some (.ref 125), some (.int (zI (lv : Int)))], [], sA μ m l) (pV (fun μ' => ∃ m', μ' = sA μ m' l ∧ (∀ c j, ¬ (c = 162 ∧ j = (lv : Int)) → m' c j = m c j) ∧ (lv < pos.length → m' 162 lv = (if (lv : Int) = ps then pf else m 158 (m 135 (m 161 lv))))) noX) := by
  obtain ⟨p1, p2, p3⟩ := hP
  refine R226_0 H ⟨⟨by omega, by omega⟩, by rw [p1]; exact ⟨by omega, by omega⟩, fun z => ⟨m, rfl, fun _ _ _ => rfl, fun y => by rw [p1] at z; omega⟩, fun z => ?_⟩
  rw [p1] at z
  have hlt : lv < pos.length := by omega
  obtain ⟨a1, a2, _⟩ := p3 lv hlt
  have x1 := a2.1
  have x2 := a2.2.1
  have b1 := a1.1
  refine ⟨by rw [e68]; exact ⟨by omega, by omega⟩, ⟨fun _ => ⟨⟨by omega, by omega⟩, ⟨by omega, by omega⟩, ⟨by omega, by omega⟩, trivial⟩, fun _ => trivial⟩, ?_⟩
  rintro v1 e1
  refine ⟨⟨by omega, by omega⟩, ?_⟩
  rintro m2 e2
  refine ⟨m2, rfl, fun c j y => by rw [e2]; exact up_o y, fun _ => ?_⟩
  rw [e2, up_s, e1, e68, e69]
  by_cases y : (lv : Int) = ps
  · rw [if_pos y, if_neg (fun w => w y)]
  · rw [if_neg y, if_pos y]
theorem EvS_cg {m m' : PM} {S : List Atm} (k' : ∀ c j, WkC T c j → m' c j = m c j) (r1 : ∀ j, iR (m' 151 j)) (r5 : ∀ j, iR (m' 165 j)) (h : EvS W rs B lev k C0 m T S) : EvS W rs B lev k C0 m' T S := ⟨WkR_cg k' r1 r5 h.1, h.2⟩
theorem tp_main {m0 : PM} {r F0 old : Nat} {Q : Option Value ⊕ Nat → am_Mem → Prop} (H : RS μ) (hr : r < rs.length) (hL : LvO lev rs) (hC : C0 + 85000 ≤ 130000) (hk : k ≤ lev (rs.getD r ruD).1.1) (hneg : ∀ c, c ∈ (rs.getD r ruD).2 → c.1 = 2 → lev c.2.1 < k) (hWd : ∀ c, c ∈ (rs.getD r ruD).2 → c.1 < 3 → ∀ x, nX m0 x c.2.1 → W x = c.2.2.length) (hWh : ∀ x, nX m0 x (rs.getD r ruD).1.1 → W x = (rs.getD r ruD).1.2.length) (hF : RuF (rs.getD r ruD) pos) (hF0 : F0 ≤ S0.length) (hold : old ≤ 1000) (hps : -1 ≤ ps ∧ ps < 100) (hpf : 0 ≤ ps → ChO S0 (pos.getD ps.toNat ([], [])).1 pf) (hPF : 0 ≤ ps → ∀ a : Nat, a < F0 → (S0.getD a ([], [])).1 = (pos.getD ps.toNat ([], [])).1 → old ≤ a → 0 ≤ pf ∧ pf ≤ (a : Int)) (hP0 : PosM W m0 pos) (e68 : m0 125 68 = ps) (e69 : m0 125 69 = pf)
    (hX : ∀ (m' : PM) (T' : Nat) (S' : List Atm) (news' : Int), (¬ ∃ S', EvG rs B S') → WkR W rs m' T' S' → m' 125 56 = 1 → (news' = 0 ∨ news' = 1) → (∀ c j, ¬ WTp c j → m' c j = m0 c j) → Q (.inl (some (.int (zI news')))) (sA μ m' l)) :
    ∀ (h lv : Nat), lv + h = pos.length → ∀ (me : PM) (Te : Nat) (Se : List Atm) (b : Nat → Option (List Cd)) (news : Int) (o5 : Option Value), EvS W rs B lev k C0 me Te Se → me 125 56 = 0 → (∀ c j, ¬ WTp c j → me c j = m0 c j) → ExS lev k S0 Se → BdL me Te (lv : Int) b → BLv pos b lv Se → (lv < pos.length → ChO Se (pos.getD lv ([], [])).1 (me 162 lv)) → news = bP (S0.length < Se.length) →
      (∀ (m' : PM) (T' : Nat) (S' : List Atm) (news' : Int) (o5' : Option Value), EvS W rs B lev k C0 m' T' S' → m' 125 56 = 0 → ExS lev k Se S' → Te ≤ T' → (∀ (u : Nat) (q : List Cd), u < Te → Tg me u q → Tg m' u q) → RtB me m' lv b → (∀ c j, ¬ WTp c j → m' c j = m0 c j) → (∀ β, Gb β → Ext b β → Rq pos S0 F0 old ps lv (me 162 lv) β → Dn (rs.getD r ruD) S0 S' β) → news' = bP (S0.length < S'.length) → Wp (d + 6) 225 (10, [some (.ref 125), some (.int (zI (r : Int))), some (.int (zI (old : Int))), some (.int (zI news')), some (.int (zI ((lv : Int) - 1))), o5'], [], sA μ m' l) Q) →
      Wp (d + 6) 225 (10, [some (.ref 125), some (.int (zI (r : Int))), some (.int (zI (old : Int))), some (.int (zI news)), some (.int (zI (lv : Int))), o5], [], sA μ me l) Q := by
  have hp8 := hP0.2.1
  have pm : ∀ {m : PM}, (∀ c j, ¬ WTp c j → m c j = m0 c j) → PosM W m pos := fun {m} fr => PosM_cg (fun c j z => fr c j (by omega)) hP0
  have nx : ∀ {m : PM}, (∀ c j, ¬ WTp c j → m c j = m0 c j) → ∀ {x : Int} {w : List Int}, nX m x w → nX m0 x w := fun {m} fr {x w} h => nX_cg (fr _ _ (by omega)).symm (fun i => (fr _ _ (by omega)).symm) (fun i => (fr _ _ (by omega)).symm) h
  intro h
  induction h with
  | zero =>
    intro lv hlv me Te Se b news o5 hE h56 fr hx hB hBL _ hnw hret
    have elv : lv = pos.length := by omega
    rw [elv] at hB hBL
    obtain ⟨p1, _, _⟩ := pm fr
    refine R225_10 H ⟨⟨by omega, by omega⟩, fun z => by omega, fun _ => ⟨by rw [h56]; exact ⟨by decide, by decide⟩, fun z => absurd h56 z, fun _ => ⟨by rw [p1]; exact ⟨by omega, by omega⟩, fun z => absurd (by rw [p1, elv]) z, fun _ => ⟨fun y μ' => Wp (d + 6) 225 (36, [some (.ref 125), some (.int (zI (r : Int))), some (.int (zI (old : Int))), some (.int (zI news)), some (.int (zI (lv : Int))), o5], [.int y], μ') Q, noX, ?_, fun _ _ z => z, fun _ _ z => z.elim⟩⟩⟩⟩
    have hnR : iR news := by rw [hnw]; exact bP_R _
    refine tp_fire (Q := pI _ noX) (news := news) H hr hL hC hk hneg (fun c hc e x hx' => hWd c hc e x (nx fr hx')) (fun x hx' => hWh x (nx fr hx')) hF hE h56 hx hB hBL hnw (fun m' T' S' y news' hy n1 n2 y1 y2 y3 y4 y5 y6 y7 => ?_) (fun m' T' tg w' y2 y6 => ?_)
    · refine R225_36 H ⟨hy, ⟨fun _ => trivial, fun _ => ⟨hnR, trivial⟩⟩, ?_⟩
      rintro v1 e1
      rw [← n2] at e1
      rw [e1]
      refine hret m' T' S' news' _ y1 y2 y3 y4 y5 ⟨fun v hv hb => ⟨y6 _ _ (by omega), y6 _ _ (by omega)⟩, fun v hv hb => ?_, fun i hi => y6 _ _ (by omega)⟩ (fun c j z => by rw [y6 c j (by omega)]; exact fr c j z) (fun β hβ he _ => y7 β hβ he) n1
      rw [y6 164 _ (by omega), elv]
      exact (hB v hv).1 hb
    · refine R225_36 H ⟨⟨by decide, by decide⟩, ⟨fun _ => trivial, fun _ => ⟨hnR, trivial⟩⟩, ?_⟩
      rintro v1 e1
      have ev : v1 = 0 ∨ v1 = 1 := by
        rw [e1, if_neg (fun z => z rfl)]
        by_cases z : news = 0
        · rw [if_pos z]; exact Or.inl rfl
        · rw [if_neg z]; exact Or.inr rfl
      have go := hX m' T' Se v1 tg w' y2 ev (fun c j z => by rw [y6 c j (by omega)]; exact fr c j z)
      exact R225_10 H ⟨⟨by omega, by omega⟩, fun _ => ⟨ev, go⟩, fun _ => ⟨by rw [y2]; exact ⟨by decide, by decide⟩, fun _ => ⟨ev, go⟩, fun z => absurd (by rw [y2]; decide) z⟩⟩
  | succ h ih =>
    intro lv hlv me Te Se b news o5 hE0 h560 fr0 hx0 hB0 hBL0 hch0 hnw0 hret
    have hlt : lv < pos.length := by omega
    have cast : ((lv + 1 : Nat) : Int) = (lv : Int) + 1 := by omega
    have step : ∀ (m : PM) (T : Nat) (S : List Atm) (news : Int) (o5 : Option Value), EvS W rs B lev k C0 m T S → m 125 56 = 0 → (∀ c j, ¬ WTp c j → m c j = m0 c j) → ExS lev k Se S → Te ≤ T → (∀ (u : Nat) (q : List Cd), u < Te → Tg me u q → Tg m u q) → RtB me m lv b → ChO S (pos.getD lv ([], [])).1 (m 162 lv) → (∀ β, Gb β → Ext b β → Rq pos S0 F0 old ps lv (me 162 lv) β → Dn (rs.getD r ruD) S0 S β ∨ Rq pos S0 F0 old ps lv (m 162 lv) β) → news = bP (S0.length < S.length) →
        (∀ (m' : PM) (T' : Nat) (S' : List Atm) (news' : Int) (o5' : Option Value), 0 ≤ m 162 lv → (m' 162 lv < 0 ∨ m 162 lv < m' 162 lv) → EvS W rs B lev k C0 m' T' S' → m' 125 56 = 0 → (∀ c j, ¬ WTp c j → m' c j = m0 c j) → ExS lev k Se S' → Te ≤ T' → (∀ (u : Nat) (q : List Cd), u < Te → Tg me u q → Tg m' u q) → RtB me m' lv b → ChO S' (pos.getD lv ([], [])).1 (m' 162 lv) → (∀ β, Gb β → Ext b β → Rq pos S0 F0 old ps lv (me 162 lv) β → Dn (rs.getD r ruD) S0 S' β ∨ Rq pos S0 F0 old ps lv (m' 162 lv) β) → news' = bP (S0.length < S'.length) → Wp (d + 6) 225 (10, [some (.ref 125), some (.int (zI (r : Int))), some (.int (zI (old : Int))), some (.int (zI news')), some (.int (zI (lv : Int))), o5'], [], sA μ m' l) Q) →
        Wp (d + 6) 225 (10, [some (.ref 125), some (.int (zI (r : Int))), some (.int (zI (old : Int))), some (.int (zI news)), some (.int (zI (lv : Int))), o5], [], sA μ m l) Q := by
      intro m T S news o5 hE h56 fr hx hT tg rt hch hrq hnw next
      have hB : BdL m T (lv : Int) b := BdL_rt hT tg hB0 rt
      have p1 := (pm fr).1
      have hlv100 : (0 : Int) ≤ (lv : Int) ∧ (lv : Int) < 100 := by omega
      refine R225_10 H ⟨⟨by omega, by omega⟩, fun z => by omega, fun _ => ⟨by rw [h56]; exact ⟨by decide, by decide⟩, fun z => absurd h56 z, fun _ => ⟨by rw [p1]; exact ⟨by omega, by omega⟩, fun _ => ⟨_, _, c_unbind (d := d + 5) (T := T) (b := b) H hlv100 hB, fun μ' hp => ?_, fun _ _ z => z.elim⟩, fun z => absurd (by rw [p1]; omega) z⟩⟩⟩
      obtain ⟨m1, rfl, hBX, f1, kp⟩ := hp
      have c1 : m1 162 (lv : Int) = m 162 (lv : Int) := f1 _ _ (by omega)
      have fr1 : ∀ c j, ¬ WTp c j → m1 c j = m0 c j := fun c j z => by rw [f1 c j (by omega)]; exact fr c j z
      have r51 := hE.1.2.1.2.2.1
      have r65 := hE.1.2.2.2.2.2.2
      have E1 : EvS W rs B lev k C0 m1 T S := EvS_cg (fun c j z => f1 c j (by omega)) (fun j => by rw [f1 _ _ (by omega)]; exact r51 j) (fun j => by rw [f1 _ _ (by omega)]; exact r65 j) hE
      have e561 : m1 125 56 = 0 := by rw [f1 _ _ (by omega)]; exact h56
      have rt1 : RtB me m1 lv b := ⟨fun v hv hb => by rw [(kp v hv hb).1, (kp v hv hb).2]; exact rt.1 v hv hb, fun v hv hb => Or.inl ((hBX v hv).1 hb), fun i hi => by rw [f1 _ _ (by omega)]; exact rt.2.2 i hi⟩
      have tgm1 : ∀ (u : Nat) (q : List Cd), Tg m u q → Tg m1 u q := fun u q h => Tg_ft (fun c j z => f1 c j (by omega)) h
      have tg1 : ∀ (u : Nat) (q : List Cd), u < Te → Tg me u q → Tg m1 u q := fun u q hu h => tgm1 u q (tg u q hu h)
      have leave : (∀ β, ¬ Rq pos S0 F0 old ps lv (m 162 lv) β) → ∀ o : Option Value, Wp (d + 6) 225 (10, [some (.ref 125), some (.int (zI (r : Int))), some (.int (zI (old : Int))), some (.int (zI news)), some (.int (zI ((lv : Int) - 1))), o], [], sA μ m1 l) Q := fun hno o => hret m1 T S news o E1 e561 hx hT tg1 rt1 fr1 (fun β hβ he hq => (hrq β hβ he hq).resolve_right (hno β)) hnw
      have hS1000 := hE.1.2.2.2.2.1.2.1
      have hcR : iR (m 162 lv) := by
        rcases hch with e | ⟨a, e, ha, _⟩
        · rw [e]; exact ⟨by decide, by decide⟩
        · rw [e]; exact ⟨by omega, by omega⟩
      have e681 : m1 125 68 = ps := by rw [fr1 _ _ (by omega)]; exact e68
      have go : 0 ≤ m 162 lv → Wp (d + 6) 225 (96, [some (.ref 125), some (.int (zI (r : Int))), some (.int (zI (old : Int))), some (.int (zI news)), some (.int (zI (lv : Int))), some (.int (zI (m 162 lv)))], [], sA μ m1 l) Q := by
        intro hc0
        obtain ⟨a, ea, ha, hnm⟩ : ∃ a : Nat, m 162 lv = (a : Int) ∧ a < S.length ∧ (S.getD a ([], [])).1 = (pos.getD lv ([], [])).1 := by
          rcases hch with e | h
          · omega
          · exact h
        rw [ea]
        have w1 := E1.1
        obtain ⟨hv1, hI1, hU1, hL1, hH1, hS1, h651⟩ := id w1
        have hD1 := hv1.2.2.1
        have h91 := (RV_n hv1).2.2.2.1
        obtain ⟨an, nxp, wdp, vbp⟩ := (pm fr1).2.2 lv hlt
        obtain ⟨nxa, wda, tra⟩ := hS1 a ha
        have ex : m1 154 (a : Int) = m1 135 (m1 161 (lv : Int)) := nX_in2 hD1 nxa (by rw [hnm]; exact nxp)
        have hlen : (S.getD a ([], [])).2.length = (pos.getD lv ([], [])).2.length := by rw [wda, ex, wdp]
        have e156 : m1 156 (a : Int) = nxF (m1 154) a S.length := (hH1.2.2.1 a ha).2.2.2
        have nsp := nxF_sp (m1 154) a S.length
        rw [← e156] at nsp
        refine R225_96 H ⟨⟨by omega, by omega⟩, ⟨by omega, by omega⟩, ⟨by omega, by omega⟩, ?_⟩
        rintro m2 e2
        have f2 : ∀ c j, ¬ (c = 162 ∧ j = (lv : Int)) → m2 c j = m1 c j := fun c j z => by rw [e2]; exact up_o z
        have c2 : m2 162 (lv : Int) = m1 156 (a : Int) := by rw [e2, up_s]
        have fr2 : ∀ c j, ¬ WTp c j → m2 c j = m0 c j := fun c j z => by rw [f2 c j (by omega)]; exact fr1 c j z
        have E2 : EvS W rs B lev k C0 m2 T S := EvS_cg (fun c j z => f2 c j (by omega)) (fun j => by rw [f2 _ _ (by omega)]; exact hI1.2.2.1 j) (fun j => by rw [f2 _ _ (by omega)]; exact h651 j) E1
        have w2 := E2.1
        obtain ⟨an2, _, _, _⟩ := (pm fr2).2.2 lv hlt
        rw [f2 161 _ (by omega)] at an2
        have nameS : ∀ c' : Nat, c' < S.length → m1 154 (c' : Int) = m1 154 (a : Int) → (S.getD c' ([], [])).1 = (pos.getD lv ([], [])).1 := fun c' hc' e => by
          obtain ⟨n1, _, _⟩ := hS1 c' hc'
          rw [e] at n1
          rw [nX_fun n1 nxa]
          exact hnm
        have relS : ∀ c' : Nat, c' < S.length → (S.getD c' ([], [])).1 = (pos.getD lv ([], [])).1 → m1 154 (c' : Int) = m1 154 (a : Int) := fun c' hc' e => by
          obtain ⟨n1, _, _⟩ := hS1 c' hc'
          exact nX_in2 hD1 n1 (by rw [e, ← hnm]; exact nxa)
        have chN : ChO S (pos.getD lv ([], [])).1 (m1 156 (a : Int)) := by
          rcases nsp with ⟨e, _⟩ | ⟨c', e, _, y2, y3, _⟩
          · exact Or.inl e
          · exact Or.inr ⟨c', e, y2, nameS c' y2 y3⟩
        have dec : m1 156 (a : Int) < 0 ∨ m 162 lv < m1 156 (a : Int) := by
          rcases nsp with ⟨e, _⟩ | ⟨c', e, y1, _⟩
          · exact Or.inl (by omega)
          · exact Or.inr (by omega)
        have hxS : ExS lev k S0 S := ExS_t hx0 hx
        have lS := ExS_l hxS
        have later : ∀ (β : Nat → List Cd) (a' : Nat), a' < F0 → m 162 lv ≤ (a' : Int) → ¬ a' = a → S0.getD a' ([], []) = sbA β (pos.getD lv ([], [])) → 0 ≤ m1 156 (a : Int) ∧ m1 156 (a : Int) ≤ (a' : Int) := fun β a' h1 h2 h3 h4 => by
          have eS : S.getD a' ([], []) = sbA β (pos.getD lv ([], [])) := by rw [ExS_g hxS (by omega)]; exact h4
          have rl := relS a' (by omega) (by rw [eS]; rfl)
          rcases nsp with ⟨_, y⟩ | ⟨c', e, _, _, _, y⟩
          · exact absurd rl (y a' (by omega) (by omega))
          · by_cases z : a' < c'
            · exact absurd rl (y a' (by omega) z)
            · omega
        have eqA : ∀ β : Nat → List Cd, (∀ q, q < (pos.getD lv ([], [])).2.length → sbC β ((pos.getD lv ([], [])).2.getD q []) = (S.getD a ([], [])).2.getD q []) ↔ sbA β (pos.getD lv ([], [])) = S.getD a ([], []) := fun β => by
          constructor
          · intro hh
            refine Prod.ext (by rw [sbA_1]; exact hnm.symm) ?_
            show (pos.getD lv ([], [])).2.map (sbC β) = _
            exact ext_gD2 (by rw [List.length_map, hlen]) fun q hq => by
              rw [List.length_map] at hq
              rw [map_gD hq]
              exact hh q hq
          · intro hh q hq
            rw [← hh]
            show _ = ((pos.getD lv ([], [])).2.map (sbC β)).getD q []
            rw [map_gD hq]
        have tgm2 : ∀ (u : Nat) (q : List Cd), Tg m1 u q → Tg m2 u q := fun u q h => TgR_cg (T := u + 1) (f2 _ _ (by omega)) (fun i => f2 _ _ (by omega)) (fun i => f2 _ _ (by omega)) (fun t _ => ⟨f2 _ _ (by omega), f2 _ _ (by omega), fun k _ => f2 _ _ (by omega)⟩) _ u q (by omega) h
        have bx2 : BdX m2 T (lv : Int) b b := by
          intro v hv
          obtain ⟨z1, z2, z3, z4⟩ := hBX v hv
          rw [f2 164 _ (by omega), f2 163 _ (by omega)]
          refine ⟨z1, fun q e => ?_, z3, z4⟩
          obtain ⟨q1, u, q2, q3, q4⟩ := z2 q e
          exact ⟨q1, u, q2, q3, tgm2 u q q4⟩
        refine ⟨fun y μ' => Wp (d + 6) 225 (125, [some (.ref 125), some (.int (zI (r : Int))), some (.int (zI (old : Int))), some (.int (zI news)), some (.int (zI (lv : Int))), some (.int (zI (a : Int)))], [.int y], μ') Q, noX, ?_, fun _ _ z => z, fun _ _ z => z.elim⟩
        refine c_fitsAtom (d := d + 4) (Q := pI _ noX) (b := b) (ps := (pos.getD lv ([], [])).2) (qs := (S.getD a ([], [])).2) H w2.2.1 w2.2.2.1 w2.1.2.2.1 (RV_n w2.1).2.2.2.1 hlv100 an2.1 (by omega) an2.2.2.1 an2.2.1 (fun q hq => ⟨(an2.2.2.2 q hq).1, (an2.2.2.2 q hq).2, vbp _ ((mem_gD (pos.getD lv ([], [])).2 [] _).mpr ⟨q, hq, rfl⟩)⟩) (fun q hq => ?_) bx2 (fun m3 b' y1 y2 y3 yA yB y4 y5 => ?_) (fun m3 b' y1 y2 yB y3 => ?_)
        · obtain ⟨u, u1, u2, u3⟩ := tra q (by omega)
          exact ⟨u, by rw [f2 _ _ (by omega)]; exact u1, u2, tgm2 u _ u3⟩
        · /- it fits -/
          have fr3 : ∀ c j, ¬ WTp c j → m3 c j = m0 c j := fun c j z => by rw [y2 c j (by omega)]; exact fr2 c j z
          refine R225_125 H ⟨⟨by decide, by decide⟩, fun z => absurd z (by decide), fun _ => ⟨_, _, c_begin (d := d + 5) (lv := lv + 1) (ps := ps) (pf := pf) H (pm fr3) (by rw [fr3 _ _ (by omega)]; exact (by have := h91; rw [fr1 _ _ (by omega)] at this; exact this)) (by rw [fr3 _ _ (by omega)]; exact e68) hps (by rw [fr3 _ _ (by omega)]; exact e69) (by omega), fun μ' hp => ?_, fun _ _ z => z.elim⟩⟩
          obtain ⟨m4, rfl, f4, ch4⟩ := hp
          refine R225_137 H ?_
          have fr4 : ∀ c j, ¬ WTp c j → m4 c j = m0 c j := fun c j z => by rw [f4 c j (by omega)]; exact fr3 c j z
          have E3 : EvS W rs B lev k C0 m3 T S := EvS_cg (fun c j z => y2 c j (by omega)) (fun j => by rw [y2 _ _ (by omega)]; exact w2.2.1.2.2.1 j) (fun j => by rw [y2 _ _ (by omega)]; exact w2.2.2.2.2.2.2 j) E2
          have E4 : EvS W rs B lev k C0 m4 T S := EvS_cg (fun c j z => f4 c j (by omega)) (fun j => by rw [f4 _ _ (by omega)]; exact E3.1.2.1.2.2.1 j) (fun j => by rw [f4 _ _ (by omega)]; exact E3.1.2.2.2.2.2.2 j) E3
          have tgm3 : ∀ (u : Nat) (q : List Cd), Tg m2 u q → Tg m3 u q := fun u q h => Tg_ft y2 h
          have tgm4 : ∀ (u : Nat) (q : List Cd), Tg m3 u q → Tg m4 u q := fun u q h => TgR_cg (T := u + 1) (f4 _ _ (by omega)) (fun i => f4 _ _ (by omega)) (fun i => f4 _ _ (by omega)) (fun t _ => ⟨f4 _ _ (by omega), f4 _ _ (by omega), fun k _ => f4 _ _ (by omega)⟩) _ u q (by omega) h
          have B4 : BdL m4 T ((lv + 1 : Nat) : Int) b' := by
            rw [cast]
            have z := BdX_U y1
            intro v hv
            obtain ⟨z1, z2⟩ := z v hv
            rw [f4 164 _ (by omega), f4 163 _ (by omega)]
            refine ⟨z1, fun q e => ?_⟩
            obtain ⟨q1, u, q2, q3, q4⟩ := z2 q e
            exact ⟨q1, u, q2, q3, tgm4 u q q4⟩
          have BL4 : BLv pos b' (lv + 1) S := by
            refine ⟨fun i hi q hq c hc h5 => ?_, fun β hβ he i hi => ?_, fun v hv => ?_⟩
            · by_cases z : i = lv
              · rw [z] at hq
                obtain ⟨j, hj, ej⟩ := mem_gD2 hq
                exact y5 j hj c (by rw [ej]; exact hc) h5
              · have z2 := hBL0.1 i (by omega) q hq c hc h5
                intro z3
                cases e : b (c.1 - 5) with
                | none => exact z2 e
                | some q' => exact nomatch (z3.symm.trans (y3 _ _ e))
            · obtain ⟨e1, e2'⟩ := (y4 β hβ).mp he
              by_cases z : i = lv
              · rw [z, (eqA β).mp e2']
                exact gA_mem ha
              · exact ExS_m hx (hBL0.2.1 β hβ e1 i (by omega))
            · rcases yA v hv with z | z
              · exact hBL0.2.2 v z
              · exact z
          have first : ∀ hl1 : lv + 1 < pos.length, ¬ ((lv + 1 : Nat) : Int) = ps → m4 162 ((lv + 1 : Nat) : Int) = fsF (m1 154) (m1 135 (m1 161 ((lv + 1 : Nat) : Int))) S.length ∧ nX m1 (m1 135 (m1 161 ((lv + 1 : Nat) : Int))) (pos.getD (lv + 1) ([], [])).1 := fun hl1 hne => by
            have z := ch4 hl1
            rw [if_neg hne] at z
            obtain ⟨_, nx1, _, _⟩ := (pm fr1).2.2 (lv + 1) hl1
            refine ⟨?_, nx1⟩
            rw [z, y2 158 _ (by omega), y2 135 _ (by omega), y2 161 _ (by omega), f2 158 _ (by omega), f2 135 _ (by omega), f2 161 _ (by omega)]
            exact (hH1.2.2.2.1 _ nx1.1 nx1.2.1).2.1
          have ch41 : lv + 1 < pos.length → ChO S (pos.getD (lv + 1) ([], [])).1 (m4 162 ((lv + 1 : Nat) : Int)) := fun hl1 => by
            by_cases hne : ((lv + 1 : Nat) : Int) = ps
            · have z := ch4 hl1
              rw [if_pos hne] at z
              rw [z]
              have z2 := ChO_x hxS (hpf (by omega))
              rw [show ps.toNat = lv + 1 by omega] at z2
              exact z2
            · obtain ⟨q1, q2⟩ := first hl1 hne
              rw [q1]
              rcases fsF_sp (m1 154) (m1 135 (m1 161 ((lv + 1 : Nat) : Int))) S.length with ⟨e, _⟩ | ⟨c', e, c2', c3, _⟩
              · exact Or.inl e
              · obtain ⟨n1, _, _⟩ := hS1 c' c2'
                rw [c3] at n1
                exact Or.inr ⟨c', e, c2', nX_fun n1 q2⟩
          have outer := ih (lv + 1) (by omega) m4 T S b' news (some (.int (zI (a : Int)))) E4 (by rw [f4 _ _ (by omega), y2 _ _ (by omega), f2 _ _ (by omega)]; exact e561) fr4 hxS B4 BL4 ch41 hnw (fun m5 T5 S5 news5 o5' E5 e565 x5 t5 tg5 rt5 fr5 dn5 n5 => ?_)
          · rw [cast] at outer
            exact outer
          · have c5 : m5 162 (lv : Int) = m1 156 (a : Int) := by rw [rt5.2.2 lv (by omega), f4 _ _ (by omega), y2 _ _ (by omega)]; exact c2
            rw [show ((lv + 1 : Nat) : Int) - 1 = (lv : Int) by omega]
            have isS : ∀ v, ¬ b v = none → ¬ b' v = none := fun v hv z => by
              cases e : b v with
              | none => exact hv e
              | some q => exact nomatch (z.symm.trans (y3 v q e))
            refine next m5 T5 S5 news5 o5' hc0 (by rw [c5]; exact dec) E5 e565 fr5 (ExS_t hx x5) (by omega) (fun u q hu hq => tg5 u q (by omega) (tgm4 u q (tgm3 u q (tgm2 u q (tg1 u q hu hq))))) ⟨fun v hv hb => ?_, fun v hv hb => ?_, fun i hi => ?_⟩ (by rw [c5]; exact ChO_x x5 chN) (fun β hβ he hq => ?_) n5
            · obtain ⟨k1, k2⟩ := rt5.1 v hv (isS v hb)
              rw [k1, k2, f4 163 _ (by omega), f4 164 _ (by omega), (yB v hv hb).1, (yB v hv hb).2, f2 163 _ (by omega), f2 164 _ (by omega)]
              exact rt1.1 v hv hb
            · by_cases hb' : b' v = none
              · rcases rt5.2.1 v hv hb' with z | z
                · exact Or.inl z
                · exact Or.inr ⟨by omega, z.2⟩
              · obtain ⟨_, k2⟩ := rt5.1 v hv hb'
                have z := (y1 v hv).2.2.2 hb hb'
                rw [k2, f4 164 _ (by omega), z]
                exact Or.inr ⟨Int.le_refl _, hlv100.2⟩
            · rw [rt5.2.2 i (by omega), f4 _ _ (by omega), y2 _ _ (by omega), f2 _ _ (by omega)]
              exact rt1.2.2 i hi
            · rcases hrq β hβ he hq with z | z
              · exact Or.inl (fun ho => ExS_m x5 (z ho))
              · obtain ⟨z1, a', z2, z3, z4, z5, z6⟩ := z hlt
                by_cases ea' : a' = a
                · refine Or.inl (dn5 β hβ ((y4 β hβ).mpr ⟨he, (eqA β).mpr ?_⟩) (fun hl1 => ?_))
                  · rw [← z5, ea', ExS_g hxS (by omega)]
                  · refine ⟨fun i hi1 hi2 => z1 i (by omega) hi2, ?_⟩
                    obtain ⟨a2, q1, q2, q3, q4⟩ := z1 (lv + 1) (Nat.le_refl _) hl1
                    have q0 : 0 ≤ m4 162 ((lv + 1 : Nat) : Int) ∧ m4 162 ((lv + 1 : Nat) : Int) ≤ (a2 : Int) := by
                      by_cases hne : ((lv + 1 : Nat) : Int) = ps
                      · have zz := ch4 hl1
                        rw [if_pos hne] at zz
                        rw [zz]
                        refine hPF (by omega) a2 q1 ?_ (q4 hne)
                        rw [q2, show ps.toNat = lv + 1 by omega]
                        rfl
                      · obtain ⟨w1', w2'⟩ := first hl1 hne
                        rw [w1']
                        have hm2 : a2 < S.length := by omega
                        obtain ⟨n1, _, _⟩ := hS1 a2 hm2
                        have eS : S.getD a2 ([], []) = sbA β (pos.getD (lv + 1) ([], [])) := by rw [ExS_g hxS (by omega)]; exact q2
                        rw [eS] at n1
                        have er : m1 154 (a2 : Int) = m1 135 (m1 161 ((lv + 1 : Nat) : Int)) := nX_in2 hD1 n1 w2'
                        rcases fsF_sp (m1 154) (m1 135 (m1 161 ((lv + 1 : Nat) : Int))) S.length with ⟨_, e⟩ | ⟨c', e, _, _, e2'⟩
                        · exact absurd er (e a2 hm2)
                        · by_cases zz : a2 < c'
                          · exact absurd er (e2' a2 zz)
                          · omega
                    exact ⟨a2, q1, q0.1, q0.2, q2, q3⟩
                · refine Or.inr (fun _ => ⟨z1, a', z2, ?_, ?_, z5, z6⟩)
                  · rw [c5]; exact (later β a' z2 z4 ea' z5).1
                  · rw [c5]; exact (later β a' z2 z4 ea' z5).2
        · /- it doesn't fit -/
          have fr3 : ∀ c j, ¬ WTp c j → m3 c j = m0 c j := fun c j z => by rw [y2 c j (by omega)]; exact fr2 c j z
          have E3 : EvS W rs B lev k C0 m3 T S := EvS_cg (fun c j z => y2 c j (by omega)) (fun j => by rw [y2 _ _ (by omega)]; exact w2.2.1.2.2.1 j) (fun j => by rw [y2 _ _ (by omega)]; exact w2.2.2.2.2.2.2 j) E2
          have c3 : m3 162 (lv : Int) = m1 156 (a : Int) := by rw [y2 _ _ (by omega)]; exact c2
          refine R225_125 H ⟨⟨by decide, by decide⟩, fun _ => ?_, fun z => absurd rfl z⟩
          refine next m3 T S news _ hc0 (by rw [c3]; exact dec) E3 (by rw [y2 _ _ (by omega), f2 _ _ (by omega)]; exact e561) fr3 hx hT (fun u q hu hq => Tg_ft y2 (tgm2 u q (tg1 u q hu hq))) ⟨fun v hv hb => ?_, fun v hv hb => (BdX_L hlv100 y1 v hv).1 hb, fun i hi => ?_⟩ (by rw [c3]; exact chN) (fun β hβ he hq => ?_) hnw
          · rw [(yB v hv hb).1, (yB v hv hb).2, f2 163 _ (by omega), f2 164 _ (by omega)]
            exact rt1.1 v hv hb
          · rw [y2 _ _ (by omega), f2 _ _ (by omega)]
            exact rt1.2.2 i hi
          · rcases hrq β hβ he hq with z | z
            · exact Or.inl z
            · obtain ⟨z1, a', z2, z3, z4, z5, z6⟩ := z hlt
              by_cases ea' : a' = a
              · refine absurd ((eqA β).mpr ?_) (y3 β hβ he)
                rw [← z5, ea', ExS_g hxS (by omega)]
              · refine Or.inr (fun _ => ⟨z1, a', z2, ?_, ?_, z5, z6⟩)
                · rw [c3]; exact (later β a' z2 z4 ea' z5).1
                · rw [c3]; exact (later β a' z2 z4 ea' z5).2
      refine R225_61 H ⟨⟨by omega, by omega⟩, by rw [c1]; exact hcR, fun z => ?_, fun z => ⟨by rw [e681]; exact ⟨by omega, by omega⟩, fun z68 => ?_, fun z68 => ⟨⟨by omega, by omega⟩, fun zo => ?_, fun zo => ?_⟩⟩⟩
      · rw [c1] at z
        exact leave (fun β hq => by obtain ⟨_, a', _, q2, _⟩ := hq hlt; omega) _
      · rw [c1] at z ⊢
        exact go (by omega)
      · rw [c1] at z ⊢
        exact go (by omega)
      · rw [e681] at z68
        rw [c1] at zo
        refine leave (fun β hq => ?_) _
        obtain ⟨_, a', _, _, q3, _, q5⟩ := hq hlt
        have := q5 (by omega)
        omega
    have inner : ∀ (g : Nat) (m : PM) (T : Nat) (S : List Atm) (news : Int) (o5 : Option Value), (m 162 lv < 0 ∨ 1001 - (m 162 lv).toNat ≤ g) → EvS W rs B lev k C0 m T S → m 125 56 = 0 → (∀ c j, ¬ WTp c j → m c j = m0 c j) → ExS lev k Se S → Te ≤ T → (∀ (u : Nat) (q : List Cd), u < Te → Tg me u q → Tg m u q) → RtB me m lv b → ChO S (pos.getD lv ([], [])).1 (m 162 lv) → (∀ β, Gb β → Ext b β → Rq pos S0 F0 old ps lv (me 162 lv) β → Dn (rs.getD r ruD) S0 S β ∨ Rq pos S0 F0 old ps lv (m 162 lv) β) → news = bP (S0.length < S.length) → Wp (d + 6) 225 (10, [some (.ref 125), some (.int (zI (r : Int))), some (.int (zI (old : Int))), some (.int (zI news)), some (.int (zI (lv : Int))), o5], [], sA μ m l) Q := by
      intro g
      induction g with
      | zero =>
        intro m T S news o5 hg hE h56 fr hx hT tg rt hch hrq hnw
        have hS1000 := hE.1.2.2.2.2.1.2.1
        refine step m T S news o5 hE h56 fr hx hT tg rt hch hrq hnw (fun m' T' S' news' o5' hc0 => ?_)
        rcases hch with e | ⟨a, e, ha, _⟩
        · omega
        · omega
      | succ g ihg =>
        intro m T S news o5 hg hE h56 fr hx hT tg rt hch hrq hnw
        refine step m T S news o5 hE h56 fr hx hT tg rt hch hrq hnw (fun m' T' S' news' o5' hc0 hd' a1 a2 a3 a4 a5 a6 a7 a8 a9 a10 => ihg m' T' S' news' o5' (by omega) a1 a2 a3 a4 a5 a6 a7 a8 a9 a10)
    exact inner 1001 me Te Se news o5 (by omega) hE0 h560 fr0 ExS_r (Nat.le_refl _) (fun _ _ _ h => h) ⟨fun _ _ _ => ⟨rfl, rfl⟩, fun v hv hb => (hB0 v hv).1 hb, fun _ _ => rfl⟩ (hch0 hlt) (fun _ _ _ h => Or.inr h) hnw0
end RP2
