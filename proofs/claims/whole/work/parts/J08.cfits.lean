/-! ===== the class's model: fits ===== -/
/-- which variables are bound, as bits -/
def BtB (m : PM) (b : Nat → Option (List Cd)) : Prop := ∃ B : Nat, B < 256 ∧ m 70 8 = (B : Int) ∧ ∀ v, v < 8 → (B.testBit v = true ↔ ¬ b v = none)
/-- what is still to be set against what, from node i down to lo -/
def PnC (X : Int → List Int → Prop) (s q : Nat) (m0 m : PM) (T : Nat) (lo : Int) : Int → List (List Cd × List Cd) → Prop
  | i, [] => i + 1 = lo
  | i, p :: L => TcR X s 11 m0 i p.1 ∧ vbC p.1 ∧ (∃ u : Nat, m 82 i = (u : Int) ∧ u < T ∧ Cg X q m0 u p.2) ∧ PnC X s q m0 m T lo (i - (p.1.length : Int)) L
def AllM (β : Nat → List Cd) (L : List (List Cd × List Cd)) : Prop := ∀ pr, pr ∈ L → sbC β pr.1 = pr.2
def VrL (L : List (List Cd × List Cd)) (v : Nat) : Prop := ∃ pr, pr ∈ L ∧ ∃ c, c ∈ pr.1 ∧ c.1 = 5 + v
abbrev WFx (c : Nat) (j : Int) : Prop := c = 82 ∨ c = 83 ∨ (c = 70 ∧ j = 8)
theorem plz_rev : ∀ L : List (List Cd × List Cd), plz L.reverse = plz L := by
  intro L
  induction L with
  | nil => rfl
  | cons p L ih =>
    rw [List.reverse_cons, plz_app, ih]
    show plz L + (p.1.length + 0) = p.1.length + plz L
    omega
theorem take_lt (ps : List (List Cd)) (i j : Nat) (h : i < j ∨ j < i) (hb : i ≤ ps.length ∧ j ≤ ps.length) (h1 : ∀ p, p ∈ ps → 1 ≤ p.length) : ¬ (ps.take i).flatten.length = (ps.take j).flatten.length := by
  have step : ∀ (g i : Nat), i + g + 1 ≤ ps.length → (ps.take i).flatten.length < (ps.take (i + g + 1)).flatten.length := by
    intro g
    induction g with
    | zero =>
      intro i hi
      have hpm : ps.getD i [] ∈ ps := by
        rw [List.getD_eq_getElem?_getD, List.getElem?_eq_getElem (by omega)]
        exact List.getElem_mem (by omega)
      have := h1 _ hpm
      have e : ([ps.getD i []] : List (List Cd)).flatten.length = (ps.getD i []).length := by simp
      rw [show i + 0 + 1 = i + 1 by omega, take_p (by omega), List.flatten_append, List.length_append, e]
      omega
    | succ g ih =>
      intro i hi
      have a := ih i (by omega)
      rw [show i + (g + 1) + 1 = (i + g + 1) + 1 by omega, take_p (by omega), List.flatten_append, List.length_append]
      omega
  rcases h with h | h
  · have := step (j - i - 1) i (by omega)
    rw [show i + (j - i - 1) + 1 = j by omega] at this
    omega
  · have := step (i - j - 1) j (by omega)
    rw [show j + (i - j - 1) + 1 = i by omega] at this
    omega
section CFI
variable {d : Nat} {μ : am_Mem} {l : PM} {Q : Option Value ⊕ Nat → am_Mem → Prop} {X : Int → List Int → Prop} {q N P S s : Nat}
theorem PnC_ge {m0 m : PM} {T : Nat} {lo : Int} : ∀ (L : List (List Cd × List Cd)) (i : Int), PnC X s q m0 m T lo i L → lo ≤ i + 1 := by
  intro L
  induction L with
  | nil => intro i h; exact Int.le_of_eq h.symm
  | cons p L ih =>
    intro i h
    have h1 := TcR_ln h.1
    have := ih _ h.2.2.2
    omega
theorem PnC_cg {m0 m m' : PM} {T : Nat} {lo : Int} : ∀ (L : List (List Cd × List Cd)) (i : Int), (∀ j, j ≤ i → m' 82 j = m 82 j) → PnC X s q m0 m T lo i L → PnC X s q m0 m' T lo i L := by
  intro L
  induction L with
  | nil => intro i _ h; exact h
  | cons p L ih =>
    intro i k h
    obtain ⟨h1, h2, ⟨u, u1, u2, u3⟩, h4⟩ := h
    have := TcR_ln h1
    exact ⟨h1, h2, ⟨u, by rw [k i (Int.le_refl _)]; exact u1, u2, u3⟩, ih _ (fun j hj => k j (by omega)) h4⟩
theorem wi_s (hs : s = 22 ∨ s = 42) {c : Nat} {j : Int} (h1 : s ≤ c) (h2 : c ≤ s + 19) : ¬ WFx c j := by omega
theorem wi_q (hq : TQ q N P S) {j : Int} : ¬ WFx q j ∧ ¬ WFx (q + 1) j ∧ ¬ WFx (q + 2) j := by omega
theorem Cg_wi (hq : TQ q N P S) {m m' : PM} (k : ∀ c j, ¬ WFx c j → m' c j = m c j) {u : Nat} {cs : List Cd} (h : Cg X q m u cs) : Cg X q m' u cs := CgR_cg (T := u + 1) (fun t _ => ⟨k _ _ (wi_q hq).1, k _ _ (wi_q hq).2.1, fun i _ => k _ _ (wi_q hq).2.2⟩) _ u _ (by omega) h
theorem AllM_c {β : Nat → List Cd} {p t : List Cd} {L : List (List Cd × List Cd)} : AllM β ((p, t) :: L) ↔ (sbC β p = t ∧ AllM β L) := ⟨fun h => ⟨h (p, t) List.mem_cons_self, fun pr hp => h pr (List.mem_cons_of_mem _ hp)⟩, fun h pr hp => by
  rcases List.mem_cons.mp hp with e | e
  · rw [e]; exact h.1
  · exact h.2 pr e⟩
/-- parts on the pile -/
theorem PnC_parts {m0 m : PM} {T : Nat} {lo k : Int} {R : Int → Int} {w : Int} {f : Nat} {ps qs : List (List Cd)} {L : List (List Cd × List Cd)} (hf : f ≤ 11) (hP : PcR (TcR X s f m0) R w 0 k ps) (hv : vbC ps.flatten) (hu : ∀ j : Nat, j < ps.length → ∃ u : Nat, m 82 (R (w + (j : Int))) = (u : Int) ∧ u < T ∧ Cg X q m0 u (qs.getD j [])) (hL : PnC X s q m0 m T lo (k - 1) L) : ∀ j, j ≤ ps.length → PnC X s q m0 m T lo (k + ((ps.take j).flatten.length : Int) - 1) ((kz ps qs j).reverse ++ L) := by
  intro j
  induction j with
  | zero =>
    intro _
    show PnC X s q m0 m T lo (k + ((0 : Nat) : Int) - 1) L
    rw [show k + ((0 : Nat) : Int) - 1 = k - 1 by omega]
    exact hL
  | succ j ih =>
    intro hj
    have hjl : j < ps.length := by omega
    obtain ⟨e1, e2⟩ := PcR_pos ps 0 _ hP j hjl
    rw [show ((0 + j : Nat) : Int) = (j : Int) by omega] at e1
    obtain ⟨u, u1, u2, u3⟩ := hu j hjl
    rw [e1] at u1
    rw [kz_s, List.reverse_append]
    have et : ((ps.take (j + 1)).flatten.length : Int) = ((ps.take j).flatten.length : Int) + ((ps.getD j []).length : Int) := by
      rw [take_p hjl, List.flatten_append, List.length_append]
      simp
    have hpm : ps.getD j [] ∈ ps := by
      rw [List.getD_eq_getElem?_getD, List.getElem?_eq_getElem hjl]
      exact List.getElem_mem hjl
    refine ⟨TcR_mono f 11 _ _ hf e2, fun c hc => hv c (List.mem_flatten.mpr ⟨_, hpm, hc⟩), ⟨u, u1, u2, u3⟩, ?_⟩
    show PnC X s q m0 m T lo (k + ((ps.take (j + 1)).flatten.length : Int) - 1 - ((ps.getD j []).length : Int)) ((kz ps qs j).reverse ++ L)
    rw [et, show k + (((ps.take j).flatten.length : Int) + ((ps.getD j []).length : Int)) - 1 - ((ps.getD j []).length : Int) = k + ((ps.take j).flatten.length : Int) - 1 by omega]
    exact ih (by omega)
theorem fi_56 {m0 : PM} {k n T : Nat} {lo x2 : Int} (H : CS μ) (TS_ : TS μ q N P S) (hq : TQ q N P S) (hs : s = 22 ∨ s = 42) (h2 : am_F μ 70 2 = s) (hX : XP X) (hX2 : ∀ x w, X x w → x < 1024) (hk : k < n) (hn : n ≤ 1000) (e9 : m0 (s + 9) (k : Int) = lo) (hlo : 0 ≤ lo ∧ lo ≤ (k : Int)) (hT : CtT X q N S m0 T) (hG : GrI X q s m0 T n) : ∀ (r : Nat) (L : List (List Cd × List Cd)) (i : Int) (m : PM) (b : Nat → Option (List Cd)) (o4 o5 o6 : Option Value) (Q : Option Value ⊕ Nat → am_Mem → Prop), plz L ≤ r → i < (k : Int) → PnC X s q m0 m T lo i L → BdC X q m T b → BtB m b → (∀ c j, ¬ WFx c j → m c j = m0 c j) →
    (∀ (m' : PM) (b' : Nat → Option (List Cd)), (∀ β, Gb β → (Ext b' β ↔ (Ext b β ∧ AllM β L))) → (∀ v, ¬ b' v = none ↔ (¬ b v = none ∨ VrL L v)) → BdC X q m' T b' → BtB m' b' → (∀ c j, ¬ WFx c j → m' c j = m0 c j) → Q (.inl (some (.int (zI 1)))) (sA μ m' l)) →
    (∀ m' : PM, (∀ β, Gb β → Ext b β → ¬ AllM β L) → BdC X q m' T b → (∀ c j, ¬ WFx c j → m' c j = m0 c j) → Q (.inl (some (.int (zI 0)))) (sA μ m' l)) →
    Wp d 43 (56, [some (.ref 70), some (.int (zI (k : Int))), some (.int (zI x2)), some (.int (zI i)), o4, o5, o6], [], sA μ m l) Q := by
  intro r
  induction r with
  | zero =>
    intro L i m b o4 o5 o6 Q hr hi hp hB hbt fr hy hn'
    cases L with
    | cons p L =>
      have := TcR_ln hp.1
      have : plz (p :: L) = p.1.length + plz L := rfl
      omega
    | nil =>
      have hp : i + 1 = lo := hp
      have e9' : m (s + 9) (k : Int) = lo := by rw [fr _ _ (wi_s hs (by omega) (by omega))]; exact e9
      refine K43_56 H TS_ hq hs h2 ⟨⟨by omega, by omega⟩, ⟨by omega, by omega⟩, by rw [e9']; exact ⟨by omega, by omega⟩, fun _ => ?_, fun z => by rw [e9'] at z; omega⟩
      exact hy m b (fun β _ => ⟨fun h => ⟨h, fun pr hp => absurd hp List.not_mem_nil⟩, fun h => h.1⟩) (fun v => ⟨Or.inl, fun h => h.elim id (fun ⟨pr, hp, _⟩ => absurd hp List.not_mem_nil)⟩) hB hbt fr
  | succ r ih =>
    intro L i m b o4 o5 o6 Q hr hi hp hB hbt fr hy hn'
    have e9' : m (s + 9) (k : Int) = lo := by rw [fr _ _ (wi_s hs (by omega) (by omega))]; exact e9
    cases L with
    | nil =>
      have hp : i + 1 = lo := hp
      refine K43_56 H TS_ hq hs h2 ⟨⟨by omega, by omega⟩, ⟨by omega, by omega⟩, by rw [e9']; exact ⟨by omega, by omega⟩, fun _ => ?_, fun z => by rw [e9'] at z; omega⟩
      exact hy m b (fun β _ => ⟨fun h => ⟨h, fun pr hp => absurd hp List.not_mem_nil⟩, fun h => h.1⟩) (fun v => ⟨Or.inl, fun h => h.elim id (fun ⟨pr, hp, _⟩ => absurd hp List.not_mem_nil)⟩) hB hbt fr
    | cons pt L =>
      obtain ⟨p, t⟩ := pt
      obtain ⟨h1, hvb, h3, h4⟩ : TcR X s 11 m0 i p ∧ vbC p ∧ (∃ u : Nat, m 82 i = (u : Int) ∧ u < T ∧ Cg X q m0 u t) ∧ PnC X s q m0 m T lo (i - (p.length : Int)) L := hp
      obtain ⟨u, u1, u2, u3⟩ := h3
      have hln : 1 ≤ p.length := TcR_ln h1
      have hge := PnC_ge _ _ h4
      have epl : plz ((p, t) :: L) = p.length + plz L := rfl
      have hge' : lo ≤ i := by omega
      obtain ⟨iN, rfl⟩ : ∃ iN : Nat, i = (iN : Int) := ⟨i.toNat, by omega⟩
      have hTN := hT.1.2.1
      have sh : ∀ c j, s ≤ c → c ≤ s + 19 → m c j = m0 c j := fun c j y1 y2 => fr c j (wi_s hs y1 y2)
      have hvm : m (s + 10) (iN : Int) = (vmC p : Int) := by rw [sh _ _ (by omega) (by omega)]; exact TcR_vm h1
      have hv256 := vmC_lt p hvb
      have htw : wfS (u + 1) t := CgR_wf _ _ _ u3
      have htg : gnd t := CgR_gnd _ _ _ u3
      /- the pair fits whatever is bound: go on -/
      have skip : ∀ (o4 o5 o6 : Option Value), (∀ β, Gb β → Ext b β → sbC β p = t) → (∀ c, c ∈ p → 5 ≤ c.1 → ¬ b (c.1 - 5) = none) → Wp d 43 (56, [some (.ref 70), some (.int (zI (k : Int))), some (.int (zI x2)), some (.int (zI ((iN : Int) - (p.length : Int)))), o4, o5, o6], [], sA μ m l) Q := by
        intro o4 o5 o6 he hvs
        refine ih L _ m b o4 o5 o6 Q (by omega) (by omega) h4 hB hbt fr (fun m' b' g1 g2 g3 g4 g5 => hy m' b' (fun β hβ => ?_) (fun v => ?_) g3 g4 g5) (fun m' g1 g2 g3 => hn' m' (fun β hβ hx h => g1 β hβ hx (AllM_c.mp h).2) g2 g3)
        · rw [g1 β hβ, AllM_c]
          exact ⟨fun z => ⟨z.1, he β hβ z.1, z.2⟩, fun z => ⟨z.1, z.2.2⟩⟩
        · rw [g2 v]
          constructor
          · rintro (z | ⟨pr, z1, z2⟩)
            · exact Or.inl z
            · exact Or.inr ⟨pr, List.mem_cons_of_mem _ z1, z2⟩
          · rintro (z | ⟨pr, z1, c, z2, z3⟩)
            · exact Or.inl z
            · rcases List.mem_cons.mp z1 with e | e
              · rw [e] at z2
                have := hvs c z2 (by omega)
                rw [z3, show 5 + v - 5 = v by omega] at this
                exact Or.inl this
              · exact Or.inr ⟨pr, e, c, z2, z3⟩
      have bad : (∀ β, Gb β → Ext b β → ¬ sbC β p = t) → Q (.inl (some (.int (zI 0)))) (sA μ m l) := fun he => hn' m (fun β hβ hx h => he β hβ hx (AllM_c.mp h).1) hB fr
      by_cases hv0 : vmC p = 0
      · /- without variables -/
        have hgd := (vmC_g _).mp hv0
        obtain ⟨u0, w1, w2, w3⟩ := hG iN (by omega) _ h1 hgd
        have e81 : m 81 (iN : Int) = (u0 : Int) := by rw [fr _ _ (by omega)]; exact w1
        have e9i : m (s + 9) (iN : Int) - 1 = (iN : Int) - (p.length : Int) := by
          rw [sh _ _ (by omega) (by omega)]
          cases p with
          | nil => exact absurd h1 (fun z => z)
          | cons c rest =>
            have z : m0 (s + 9) (iN : Int) = (iN : Int) - (rest.length : Int) := h1.2.1
            rw [z, List.length_cons]
            omega
        refine K43_56 H TS_ hq hs h2 ⟨⟨by omega, by omega⟩, ⟨by omega, by omega⟩, by rw [e9']; exact ⟨by omega, by omega⟩, fun z => by rw [e9'] at z; omega, fun _ => ⟨⟨by omega, by omega⟩, by rw [hvm]; exact ⟨by omega, by omega⟩, fun z => absurd (by rw [hvm, hv0]; rfl) z, fun _ => ⟨by rw [e81]; exact ⟨by omega, by omega⟩, by rw [u1]; exact ⟨by omega, by omega⟩, fun z => ?_, fun z => ?_⟩⟩⟩
        · rw [e9i]
          refine skip _ _ _ (fun β _ _ => ?_) (fun c hc h5 => by have := hgd c hc; omega)
          rw [e81, u1] at z
          have eu : u0 = u := by omega
          rw [eu] at w3
          rw [sbC_gnd _ hgd]
          exact CgR_fun hX _ _ _ _ _ w3 u3
        · refine bad (fun β _ _ h => z ?_)
          rw [sbC_gnd _ hgd] at h
          rw [h] at w3
          rw [e81, u1, Cg_in hX hT.2.1 w2 u2 w3 u3]
      · have hvn : ¬ m (s + 10) (iN : Int) = 0 := by rw [hvm]; omega
        cases p with
        | nil => exact absurd h1 (fun z => z)
        | cons c rest =>
          obtain ⟨a, w⟩ := c
          have h1' := h1
          unfold TcR at h1'
          simp only at h1'
          obtain ⟨z1, z2, z3⟩ := h1'
          by_cases a5 : 5 ≤ a
          · /- a variable -/
            rw [if_pos a5] at z3
            obtain ⟨er, el, _⟩ := z3
            have ha13 : a < 13 := hvb (a, w) List.mem_cons_self a5
            have e6 : m (s + 6) (iN : Int) = 4 - (a : Int) := by rw [sh _ _ (by omega) (by omega)]; exact el
            obtain ⟨B, hB256, eB, hbits⟩ := id hbt
            have hv8 : a - 5 < 8 := by omega
            have eg := bt_get ⟨B, hB256⟩ ⟨a - 5, hv8⟩
            have eg : zAnd (zShr (B : Int) ((a - 5 : Nat) : Int)) 1 = if B.testBit (a - 5) then 1 else 0 := eg
            have esb : ∀ β, sbC β ((a, w) :: rest) = β (a - 5) := fun β => by rw [er]; exact sbC_var β a5
            have elen : ((a, w) :: rest : List Cd).length = 1 := by rw [er]; rfl
            refine K43_56 H TS_ hq hs h2 ⟨⟨by omega, by omega⟩, ⟨by omega, by omega⟩, by rw [e9']; exact ⟨by omega, by omega⟩, fun z => by rw [e9'] at z; omega, fun _ => ⟨⟨by omega, by omega⟩, by rw [hvm]; exact ⟨by omega, by omega⟩, fun _ => ⟨by rw [e6]; exact ⟨by omega, by omega⟩, fun z => by rw [e6] at z; omega, fun _ => ?_⟩, fun z => absurd hvn z⟩⟩
            rw [e6, show (-1 : Int) - (4 - (a : Int)) = ((a - 5 : Nat) : Int) by omega, eB, eg]
            refine ⟨by split <;> exact ⟨by decide, by decide⟩, fun z => ?_, fun z => ?_⟩
            · /- it is bound -/
              have hset : B.testBit (a - 5) = true := Classical.byContradiction fun y => z (by rw [if_neg y])
              have hbn := (hbits (a - 5) hv8).mp hset
              obtain ⟨q0, hq0⟩ : ∃ q0, b (a - 5) = some q0 := by
                cases hx : b (a - 5) with
                | none => exact absurd hx hbn
                | some q0 => exact ⟨q0, rfl⟩
              obtain ⟨_, u0, g1, g2, g3⟩ := hB _ _ hq0
              have g3 : Cg X q m0 u0 q0 := Cg_wi hq (fun c j y => (fr c j y).symm) g3
              rintro v1 ev1
              rw [ev1, g1, u1]
              refine ⟨⟨by omega, by omega⟩, ⟨by omega, by omega⟩, ⟨by omega, by omega⟩, fun y => ?_, fun y => ?_⟩
              · have eu : u0 = u := by omega
                rw [eu] at g3
                have eq : q0 = t := CgR_fun hX _ _ _ _ _ g3 u3
                have go := skip (some (.int (zI (u : Int)))) (some (.int (zI (4 - (a : Int))))) (some (.int (zI ((a - 5 : Nat) : Int)))) (fun β _ hx => by rw [esb, hx _ _ hq0, eq]) (fun c hc h5 => by
                  rw [er] at hc
                  rw [List.mem_singleton.mp hc]
                  exact hbn)
                rw [elen] at go
                exact go
              · refine bad (fun β _ hx h => y ?_)
                rw [esb, hx _ _ hq0] at h
                rw [h] at g3
                rw [Cg_in hX hT.2.1 g2 u2 g3 u3]
            · /- it is not -/
              have hclr : ¬ B.testBit (a - 5) = true := fun y => z (by rw [if_pos y]; decide)
              have hbn : b (a - 5) = none := Classical.byContradiction fun y => hclr ((hbits (a - 5) hv8).mpr y)
              have es := bt_set ⟨B, hB256⟩ ⟨a - 5, hv8⟩
              have es : zOr (B : Int) (zShl 1 ((a - 5 : Nat) : Int)) = ((B ||| 2 ^ (a - 5) : Nat) : Int) := es
              have elt := bt_lt ⟨B, hB256⟩ ⟨a - 5, hv8⟩
              have elt : B ||| 2 ^ (a - 5) < 256 := elt
              rintro v2 ev2
              rw [ev2, u1, es]
              refine ⟨⟨by omega, by omega⟩, ?_⟩
              rintro m3 e3
              have f3 : ∀ c j, ¬ ((c = 83 ∧ j = ((a - 5 : Nat) : Int)) ∨ (c = 70 ∧ j = 8)) → m3 c j = m c j := fun c j y => by rw [e3, up_o (fun z => y (Or.inr z)), up_o (fun z => y (Or.inl z))]
              have fr3 : ∀ c j, ¬ WFx c j → m3 c j = m0 c j := fun c j y => by rw [f3 c j (by omega)]; exact fr c j y
              have k383 : m3 83 ((a - 5 : Nat) : Int) = (u : Int) := by rw [e3, up_c (by decide), up_s]
              have hB3 : BdC X q m3 T (bnd b (a - 5) t) := fun v cs hv => by
                by_cases y : v = a - 5
                · rw [y, bnd_s] at hv
                  have ecs : t = cs := Option.some.inj hv
                  rw [y, ← ecs]
                  exact ⟨hv8, u, k383, u2, Cg_wi hq fr3 u3⟩
                · rw [bnd_o _ _ y] at hv
                  obtain ⟨g0, u', g1, g2, g3⟩ := hB v cs hv
                  refine ⟨g0, u', by rw [f3 _ _ (by omega)]; exact g1, g2, ?_⟩
                  exact Cg_wi hq fr3 (Cg_wi hq (fun c j y => (fr c j y).symm) g3)
              have hbt3 : BtB m3 (bnd b (a - 5) t) := by
                refine ⟨B ||| 2 ^ (a - 5), elt, by rw [e3, up_s], fun v hv => ?_⟩
                have et := bt_tb ⟨B, hB256⟩ ⟨a - 5, hv8⟩ ⟨v, hv⟩
                have et : (B ||| 2 ^ (a - 5)).testBit v = (B.testBit v || decide ((⟨a - 5, hv8⟩ : Fin 8) = ⟨v, hv⟩)) := et
                rw [et, Bool.or_eq_true, hbits v hv, decide_eq_true_iff]
                by_cases y : v = a - 5
                · have eb : bnd b (a - 5) t v = some t := by rw [y]; exact bnd_s _ _ _
                  rw [eb]
                  exact ⟨fun _ w => (by cases w), fun _ => Or.inr (Fin.ext (show a - 5 = v from y.symm))⟩
                · rw [bnd_o _ _ y]
                  constructor
                  · rintro (h | h)
                    · exact h
                    · exact absurd (congrArg Fin.val h).symm y
                  · exact Or.inl
              have go := ih L ((iN : Int) - 1) m3 (bnd b (a - 5) t) (some (.int (zI (u : Int)))) (some (.int (zI (4 - (a : Int))))) (some (.int (zI ((a - 5 : Nat) : Int)))) Q (by omega) (by omega) (PnC_cg L _ (fun j _ => f3 _ _ (by omega)) (by rw [elen] at h4; exact h4)) hB3 hbt3 fr3 (fun m' b' g1 g2 g3 g4 g5 => hy m' b' (fun β hβ => ?_) (fun v => ?_) g3 g4 g5) (fun m' g1 g2 g3 => hn' m' (fun β hβ hx h => ?_) (fun v cs hv => ?_) g3)
              · exact go
              · rw [g1 β hβ, Ext_bnd hbn, AllM_c, esb]
                exact ⟨fun z => ⟨z.1.1, z.1.2, z.2⟩, fun z => ⟨⟨z.1, z.2.1⟩, z.2.2⟩⟩
              · rw [g2 v]
                constructor
                · rintro (h | ⟨pr, p1, p2⟩)
                  · by_cases y : v = a - 5
                    · exact Or.inr ⟨((a, w) :: rest, t), List.mem_cons_self, (a, w), List.mem_cons_self, by show a = 5 + v; omega⟩
                    · rw [bnd_o _ _ y] at h
                      exact Or.inl h
                  · exact Or.inr ⟨pr, List.mem_cons_of_mem _ p1, p2⟩
                · rintro (h | ⟨pr, p1, c, p2, p3⟩)
                  · refine Or.inl ?_
                    by_cases y : v = a - 5
                    · rw [y, bnd_s]; intro w; cases w
                    · rw [bnd_o _ _ y]; exact h
                  · rcases List.mem_cons.mp p1 with e | e
                    · rw [e] at p2
                      have p2 : c ∈ (a, w) :: rest := p2
                      rw [er] at p2
                      have ec := List.mem_singleton.mp p2
                      rw [ec] at p3
                      have p3 : a = 5 + v := p3
                      refine Or.inl ?_
                      rw [show v = a - 5 by omega, bnd_s]
                      intro w
                      cases w
                    · exact Or.inr ⟨pr, e, c, p2, p3⟩
              · refine g1 β hβ ((Ext_bnd hbn).mpr ⟨hx, ?_⟩) (AllM_c.mp h).2
                have := (AllM_c.mp h).1
                rw [esb] at this
                exact this
              · refine g2 v cs ?_
                rw [bnd_o _ _ (fun y => by rw [y, hbn] at hv; cases hv)]
                exact hv
          · /- a name with parts -/
            rw [if_neg a5] at z3
            obtain ⟨ps, p1, p2, p3, p4, p5⟩ := z3
            have hx0 := (hX.1 _ _ p3).1
            have hx1 := hX2 _ _ p3
            have hlen0 : ((a, w) :: rest : List Cd).length = rest.length + 1 := rfl
            have e6 : m (s + 6) (iN : Int) = m0 (s + 6) (iN : Int) := sh _ _ (by omega) (by omega)
            have e7 : m (s + 7) (iN : Int) = (a : Int) := by rw [sh _ _ (by omega) (by omega)]; exact p4
            obtain ⟨t1, t2, t3, _, _, _⟩ := hT.1.2.2.1 u u2
            have eq0 : m q (u : Int) = m0 q (u : Int) := fr _ _ (wi_q hq).1
            have eq1 : m (q + 1) (u : Int) = m0 (q + 1) (u : Int) := fr _ _ (wi_q hq).2.1
            obtain ⟨w', qs, q1, q2, q3, q4, q5⟩ := id u3
            have hwfp : ∀ p', p' ∈ ps → wfS 10 p' := fun p' hp' => by
              obtain ⟨j, hj, e⟩ := mem_gD2 hp'
              obtain ⟨y, _, _, _, y4, _⟩ := PcR_at ps 0 _ p5 j hj
              rw [← e]
              exact TcR_wf 10 y _ y4
            have hwfq : ∀ p', p' ∈ qs → wfS (u + 1) p' := fun p' hp' => by
              obtain ⟨j, hj, e⟩ := mem_gD2 hp'
              obtain ⟨u', _, g2, g3⟩ := q5 j hj
              rw [← e]
              exact wfS_mono _ _ _ (by omega) (CgR_wf _ _ _ g3)
            have hmt : ∀ β, Gb β → (sbC β ((a, w) :: rest) = t ↔ (w = w' ∧ ps.length = qs.length ∧ ∀ j, j < ps.length → sbC β (ps.getD j []) = qs.getD j [])) := fun β hβ => by
              rw [← p1, ← p2, q1]
              exact mt_name hβ hwfp hwfq (by omega)
            refine K43_56 H TS_ hq hs h2 ⟨⟨by omega, by omega⟩, ⟨by omega, by omega⟩, by rw [e9']; exact ⟨by omega, by omega⟩, fun z => by rw [e9'] at z; omega, fun _ => ⟨⟨by omega, by omega⟩, by rw [hvm]; exact ⟨by omega, by omega⟩, fun _ => ⟨by rw [e6]; exact ⟨by omega, by omega⟩, fun _ => ?_, fun z => by rw [e6] at z; omega⟩, fun z => absurd hvn z⟩⟩
            rw [u1, eq0, eq1, e6, e7]
            refine ⟨⟨by omega, by omega⟩, ⟨by omega, by omega⟩, fun z => bad (fun β hβ _ h => z ?_), fun z => ⟨⟨by omega, by omega⟩, ⟨by omega, by omega⟩, fun z' => ?_, fun z' => bad (fun β hβ _ h => z' ?_)⟩⟩
            · have := ((hmt β hβ).mp h).1
              rw [← this] at q3
              exact hX.2.2.1 _ _ _ q3 p3
            · have el : m0 q (u : Int) = m0 (s + 6) (iN : Int) := Classical.byContradiction z
              have ew : w = w' := hX.2.1 _ _ _ p3 (by rw [← el]; exact q3)
              have en : ps.length = qs.length := by omega
              have pl : (ps.flatten.length : Int) = rest.length := by rw [p2]
              have lay : ∀ (g j : Nat) (m1 : PM), j + g = ps.length → (∀ c y, ¬ (c = 82 ∧ (iN : Int) - (rest.length : Int) ≤ y) → m1 c y = m c y) → (∀ j' : Nat, j' < j → ∃ u' : Nat, m1 82 (m0 (s + 8) (4 * (iN : Int) + (j' : Int))) = (u' : Int) ∧ u' < T ∧ Cg X q m0 u' (qs.getD j' [])) → Wp d 43 (233, [some (.ref 70), some (.int (zI (k : Int))), some (.int (zI x2)), some (.int (zI (iN : Int))), some (.int (zI (u : Int))), some (.int (zI (m0 (s + 6) (iN : Int)))), some (.int (zI (j : Int)))], [], sA μ m1 l) Q := by
                intro g
                induction g with
                | zero =>
                  intro j m1 hj f1 hm1
                  have e7' : m1 (s + 7) (iN : Int) = (a : Int) := by rw [f1 _ _ (by omega)]; exact e7
                  have fr1 : ∀ c y, ¬ WFx c y → m1 c y = m0 c y := fun c y z => by rw [f1 c y (by omega)]; exact fr c y z
                  refine K43_233 H TS_ hq hs h2 ⟨⟨by omega, by omega⟩, ⟨by omega, by omega⟩, by rw [e7']; exact ⟨by omega, by omega⟩, fun _ => ?_, fun z => by rw [e7'] at z; omega⟩
                  have hpn := PnC_parts (X := X) (s := s) (q := q) (m0 := m0) (m := m1) (T := T) (lo := lo) (qs := qs) (L := L) (by decide : 10 ≤ 11) p5 (fun c hc => hvb c (List.mem_cons_of_mem _ (by rw [← p2]; exact hc))) (fun j' hj' => hm1 j' (by omega)) (PnC_cg L _ (fun y hy => f1 _ _ (by omega)) (by rw [List.length_cons] at h4; rw [show (iN : Int) - (rest.length : Int) - 1 = (iN : Int) - ((rest.length + 1 : Nat) : Int) by omega]; exact h4)) ps.length (Nat.le_refl _)
                  rw [List.take_length, pl, show (iN : Int) - (rest.length : Int) + (rest.length : Int) - 1 = (iN : Int) - 1 by omega] at hpn
                  have eplz : plz ((kz ps qs ps.length).reverse ++ L) = rest.length + plz L := by
                    rw [plz_app, plz_rev, plz_kz _ (Nat.le_refl _), List.take_length, p2]
                  have hall : ∀ β, AllM β ((kz ps qs ps.length).reverse ++ L) ↔ ((∀ j, j < ps.length → sbC β (ps.getD j []) = qs.getD j []) ∧ AllM β L) := fun β => by
                    constructor
                    · intro h
                      refine ⟨fun j hj => h (ps.getD j [], qs.getD j []) (List.mem_append_left _ (List.mem_reverse.mpr (kz_m.mpr ⟨j, hj, rfl⟩))), fun pr hp => h pr (List.mem_append_right _ hp)⟩
                    · rintro ⟨h, h'⟩ pr hp
                      rcases List.mem_append.mp hp with e | e
                      · obtain ⟨j, hj, ej⟩ := kz_m.mp (List.mem_reverse.mp e)
                        rw [ej]
                        exact h j hj
                      · exact h' pr e
                  have hvr : ∀ v, VrL ((kz ps qs ps.length).reverse ++ L) v ↔ VrL (((a, w) :: rest, t) :: L) v := fun v => by
                    constructor
                    · rintro ⟨pr, hp, c, hc, e⟩
                      rcases List.mem_append.mp hp with h | h
                      · obtain ⟨j, hj, ej⟩ := kz_m.mp (List.mem_reverse.mp h)
                        rw [ej] at hc
                        refine ⟨_, List.mem_cons_self, c, ?_, e⟩
                        refine List.mem_cons_of_mem _ ?_
                        rw [← p2]
                        refine List.mem_flatten.mpr ⟨ps.getD j [], ?_, hc⟩
                        rw [List.getD_eq_getElem?_getD, List.getElem?_eq_getElem hj]
                        exact List.getElem_mem hj
                      · exact ⟨pr, List.mem_cons_of_mem _ h, c, hc, e⟩
                    · rintro ⟨pr, hp, c, hc, e⟩
                      rcases List.mem_cons.mp hp with h | h
                      · rw [h] at hc
                        have hc : c ∈ (a, w) :: rest := hc
                        rcases List.mem_cons.mp hc with y | y
                        · rw [y] at e
                          have e : a = 5 + v := e
                          omega
                        · rw [← p2] at y
                          obtain ⟨p', g1, g2⟩ := List.mem_flatten.mp y
                          obtain ⟨j, hj, ej⟩ := mem_gD2 g1
                          exact ⟨(ps.getD j [], qs.getD j []), List.mem_append_left _ (List.mem_reverse.mpr (kz_m.mpr ⟨j, hj, rfl⟩)), c, by rw [ej]; exact g2, e⟩
                      · exact ⟨pr, List.mem_append_right _ h, c, hc, e⟩
                  have hB1 : BdC X q m1 T b := fun v cs hv => by
                    obtain ⟨g0, u', g1, g2, g3⟩ := hB v cs hv
                    exact ⟨g0, u', by rw [f1 _ _ (by omega)]; exact g1, g2, Cg_wi hq fr1 (Cg_wi hq (fun c j y => (fr c j y).symm) g3)⟩
                  have hbt1 : BtB m1 b := by
                    obtain ⟨B, g1, g2, g3⟩ := hbt
                    exact ⟨B, g1, by rw [f1 _ _ (by omega)]; exact g2, g3⟩
                  have hlen : ((a, w) :: rest : List Cd).length = rest.length + 1 := rfl
                  refine ih _ _ m1 b _ _ _ Q (by rw [eplz]; omega) (by omega) hpn hB1 hbt1 fr1 (fun m' b' g1 g2 g3 g4 g5 => hy m' b' (fun β hβ => ?_) (fun v => ?_) g3 g4 g5) (fun m' g1 g2 g3 => hn' m' (fun β hβ hx h => g1 β hβ hx ?_) g2 g3)
                  · rw [g1 β hβ, hall β, AllM_c, hmt β hβ]
                    exact ⟨fun z => ⟨z.1, ⟨ew, en, z.2.1⟩, z.2.2⟩, fun z => ⟨z.1, z.2.1.2.2, z.2.2⟩⟩
                  · rw [g2 v, hvr v]
                  · rw [hall β]
                    have h' := AllM_c.mp h
                    exact ⟨((hmt β hβ).mp h'.1).2.2, h'.2⟩
                | succ g ihg =>
                  intro j m1 hj f1 hm1
                  have hjl : j < ps.length := by omega
                  have e7' : m1 (s + 7) (iN : Int) = (a : Int) := by rw [f1 _ _ (by omega)]; exact e7
                  obtain ⟨x, x1, x2', x3, x4, _⟩ := PcR_at ps 0 _ p5 j hjl
                  have x5 := TcR_ln x4
                  rw [show ((0 + j : Nat) : Int) = (j : Int) by omega] at x1
                  have e8 : m1 (s + 8) (4 * (iN : Int) + (j : Int)) = x := by rw [f1 _ _ (by omega), sh _ _ (by omega) (by omega)]; exact x1
                  obtain ⟨u', g1, g2, g3⟩ := q5 j (by omega)
                  have eq2 : m1 (q + 2) (4 * (u : Int) + (j : Int)) = (u' : Int) := by rw [f1 _ _ (fun y => (wi_q hq (j := 0)).2.2 (Or.inl y.1)), fr _ _ (wi_q hq).2.2]; exact g1
                  refine K43_233 H TS_ hq hs h2 ⟨⟨by omega, by omega⟩, ⟨by omega, by omega⟩, by rw [e7']; exact ⟨by omega, by omega⟩, fun z => by rw [e7'] at z; omega, fun _ => ⟨⟨by omega, by omega⟩, ⟨by omega, by omega⟩, by rw [e8]; exact ⟨by omega, by omega⟩, ?_⟩⟩
                  rw [e8, eq2]
                  rintro m2 e2
                  have go := ihg (j + 1) m2 (by omega) (fun c y z => by rw [e2, up_o (fun h => z ⟨h.1, by omega⟩)]; exact f1 c y z) (fun j' hj' => by
                    by_cases y : j' = j
                    · rw [y, x1, e2, up_s]
                      exact ⟨u', rfl, by omega, Cg_of _ _ _ g3⟩
                    · obtain ⟨v', r1, r2, r3⟩ := hm1 j' (by omega)
                      refine ⟨v', ?_, r2, r3⟩
                      obtain ⟨x', y1, y2, y3, y4, _⟩ := PcR_at ps 0 _ p5 j' (by omega)
                      have a1 := PcR_pos ps 0 _ p5 j' (by omega)
                      have a2 := PcR_pos ps 0 _ p5 j hjl
                      rw [show ((0 + j' : Nat) : Int) = (j' : Int) by omega] at a1
                      rw [show ((0 + j : Nat) : Int) = (j : Int) by omega] at a2
                      have hlt := take_lt ps (j' + 1) (j + 1) (by omega) (by omega) (fun p' hp' => by
                        obtain ⟨i', hi', ei'⟩ := mem_gD2 hp'
                        obtain ⟨_, _, _, _, y4', _⟩ := PcR_at ps 0 _ p5 i' hi'
                        rw [← ei']
                        exact TcR_ln y4')
                      rw [e2, up_i (by omega)]
                      exact r1)
                  rw [show ((j + 1 : Nat) : Int) = (j : Int) + 1 by omega] at go
                  exact go
              exact lay ps.length 0 m (by omega) (fun _ _ _ => rfl) (fun j' hj' => absurd hj' (Nat.not_lt_zero j'))
            · have := ((hmt β hβ).mp h).2.1
              rw [q4]
              omega
end CFI
