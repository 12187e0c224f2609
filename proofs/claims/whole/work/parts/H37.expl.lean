/-! ===== exploring, by itself: what both sides find ===== -/
theorem GoS_lv {rs : List Rul} (h : GoS rs) : LvO (lev0 rs) rs := lev0_o (fun r hr => ((chF_ok h.2.2.2.2).1 r hr).2.2.2.1)
/-- not too great -/
def Evb (rs : List Rul) (B : List Atm) : Prop := ∃ S, EvG rs B S
/-- what holds -/
def HlO (rs : List Rul) (B : List Atm) (a : Atm) : Prop := ∃ S, EvG rs B S ∧ a ∈ S
/-- how many atoms of a relation hold -/
noncomputable def cnO (rs : List Rul) (B : List Atm) (w : List Int) : Nat := @dite Nat (∃ S, EvG rs B S) (Classical.propDecidable _) (fun h => cntA h.choose w) (fun _ => 0)
/-- the work -/
noncomputable def wkO (rs : List Rul) (B : List Atm) : Nat := @dite Nat (∃ S, EvG rs B S) (Classical.propDecidable _) (fun h => smR h.choose rs) (fun _ => 0)
theorem Ev_hld {rs : List Rul} {B S : List Atm} (hg : GoS rs) (h : EvG rs B S) (a : Atm) : HlO rs B a ↔ a ∈ S := ⟨fun ⟨_, h', z⟩ => ((EvG_uni (GoS_lv hg) h h').1 a).mp z, fun z => ⟨S, h, z⟩⟩
theorem Ev_cn {rs : List Rul} {B S : List Atm} (hg : GoS rs) (h : EvG rs B S) (w : List Int) : cnO rs B w = cntA S w := by
  have hx : ∃ S, EvG rs B S := ⟨S, h⟩
  have e : cnO rs B w = cntA hx.choose w := dif_pos hx
  rw [e]
  exact (EvG_uni (GoS_lv hg) h hx.choose_spec).2.2.1 w
theorem Ev_wk {rs : List Rul} {B S : List Atm} (hg : GoS rs) (h : EvG rs B S) : wkO rs B = smR S rs := by
  have hx : ∃ S, EvG rs B S := ⟨S, h⟩
  have e : wkO rs B = smR hx.choose rs := dif_pos hx
  rw [e]
  unfold smR
  congr 1
  exact List.map_congr_left fun ru _ => (EvG_uni (GoS_lv hg) h hx.choose_spec).2.2.2 ru
/-- some terms, in their order -/
noncomputable def lsO (P : List Cd → Prop) : List (List Cd) := Classical.epsilon (fun M => SrT M ∧ ∀ t, t ∈ M ↔ P t)
theorem lsO_eq {P : List Cd → Prop} {M : List (List Cd)} (h : SrT M) (hm : ∀ t, t ∈ M ↔ P t) : M = lsO P := by
  have z := Classical.epsilon_spec (p := fun M => SrT M ∧ ∀ t, t ∈ M ↔ P t) ⟨M, h, hm⟩
  exact SrT_uni h z.1 (fun t => (hm t).trans (z.2 t).symm)
/-- a role's moves in a state -/
noncomputable def mvO (rs : List Rul) (L st : List (List Cd)) (r : Nat) : List (List Cd) := lsO (fun t => HlO rs (baA 0 st L []) (wdL.getD 6 [], [L.getD r [], t]))
/-- a role's goal in a state -/
noncomputable def glO (rs : List Rul) (L st : List (List Cd)) (r : Nat) : Int := Classical.epsilon (GlI (fun t => HlO rs (baA 0 st L []) (wdL.getD 8 [], [L.getD r [], t])))
theorem glO_eq {rs : List Rul} {L st : List (List Cd)} {r : Nat} {v : Int} (h : GlI (fun t => HlO rs (baA 0 st L []) (wdL.getD 8 [], [L.getD r [], t])) v) : v = glO rs L st r := GlI_uni h (Classical.epsilon_spec (p := GlI (fun t => HlO rs (baA 0 st L []) (wdL.getD 8 [], [L.getD r [], t]))) ⟨v, h⟩)
/-- a state is an end -/
abbrev ovO (rs : List Rul) (L st : List (List Cd)) : Prop := 0 < cnO rs (baA 0 st L []) (wdL.getD 9 [])
/-- how many joint moves -/
noncomputable def jmO (rs : List Rul) (L st : List (List Cd)) : Nat := if ovO rs L st then 0 else jmN L.length (mvO rs L st)
/-- the moves of a joint move -/
noncomputable def chO (rs : List Rul) (L st : List (List Cd)) (j : Nat) : List (List Cd) := (List.range L.length).map fun r => (mvO rs L st r).getD (chI (mvO rs L st) L.length j r) []
/-- the state behind moves -/
noncomputable def nsO (rs : List Rul) (L st ch : List (List Cd)) : List (List Cd) := lsO (fun t => HlO rs (baA 1 st L ch) (wdL.getD 7 [], [t]))
/-- moves that lead to a state that is not too great -/
def okN (rs : List Rul) (L st ch : List (List Cd)) : Prop := Evb rs (baA 1 st L ch) ∧ cnO rs (baA 1 st L ch) (wdL.getD 7 []) ≤ 60
/-- where a state stands -/
def ixS (s : List (List Cd)) : List (List (List Cd)) → Nat
  | [] => 0
  | a :: t => if a = s then 0 else ixS s t + 1
theorem ixS_eq {s : List (List Cd)} : ∀ {sts : List (List (List Cd))} {k : Nat}, k < sts.length → sts.getD k [] = s → (∀ i, i < k → ¬ sts.getD i [] = s) → ixS s sts = k := by
  intro sts
  induction sts with
  | nil => intro k h; exact absurd h (Nat.not_lt_zero k)
  | cons a t ih =>
    intro k hk he hn
    cases k with
    | zero => exact if_pos he
    | succ k =>
      have h0 : ¬ a = s := hn 0 (Nat.succ_pos k)
      have z := ih (k := k) (by simpa using hk) he (fun i hi => hn (i + 1) (by omega))
      unfold ixS
      rw [if_neg h0, z]
theorem ixS_no {s : List (List Cd)} : ∀ {sts : List (List (List Cd))}, ¬ s ∈ sts → ixS s sts = sts.length := by
  intro sts
  induction sts with
  | nil => intro _; rfl
  | cons a t ih =>
    intro h
    unfold ixS
    rw [if_neg (fun e => h (by rw [e]; exact List.mem_cons_self)), ih (fun z => h (List.mem_cons_of_mem _ z))]
    rfl
/-- the states with one more, if it is new -/
def adS (sts : List (List (List Cd))) (s : List (List Cd)) : List (List (List Cd)) := if s ∈ sts then sts else sts ++ [s]
def okJ (rs : List Rul) (L st : List (List Cd)) (j : Nat) (sts : List (List (List Cd))) (tot : Nat) : Prop := okN rs L st (chO rs L st j) ∧ tot + wkO rs (baA 1 st L (chO rs L st j)) ≤ 30000000 ∧ (nsO rs L st (chO rs L st j) ∈ sts ∨ sts.length < 300)
/-- the joint moves of a state from j on, k of them -/
noncomputable def xJ (rs : List Rul) (L st : List (List Cd)) : Nat → Nat → List (List (List Cd)) → Nat → List Nat → Option (List (List (List Cd)) × Nat × List Nat)
  | 0, _, sts, tot, ns => some (sts, tot, ns)
  | k + 1, j, sts, tot, ns => @ite _ (okJ rs L st j sts tot) (Classical.propDecidable _) (xJ rs L st k (j + 1) (adS sts (nsO rs L st (chO rs L st j))) (tot + wkO rs (baA 1 st L (chO rs L st j))) (ns ++ [ixS (nsO rs L st (chO rs L st j)) sts])) none
def okS (rs : List Rul) (L st : List (List Cd)) (tot : Nat) : Prop := Evb rs (baA 0 st L []) ∧ tot + wkO rs (baA 0 st L []) ≤ 30000000 ∧ jmO rs L st ≤ 40
/-- the states from n on, f of them at most -/
noncomputable def xN (rs : List Rul) (L : List (List Cd)) : Nat → Nat → List (List (List Cd)) → Nat → List (List Nat) → Option (List (List (List Cd)) × List (List Nat))
  | 0, _, sts, _, nx => some (sts, nx)
  | f + 1, n, sts, tot, nx => if sts.length ≤ n then some (sts, nx) else @ite _ (okS rs L (sts.getD n []) tot) (Classical.propDecidable _) (match xJ rs L (sts.getD n []) (jmO rs L (sts.getD n [])) 0 sts (tot + wkO rs (baA 0 (sts.getD n []) L [])) [] with
    | none => none
    | some (sts', tot', ns) => xN rs L f (n + 1) sts' tot' (nx ++ [ns])) none
/-- the first state -/
noncomputable def s0O (rs : List Rul) (L : List (List Cd)) : List (List Cd) := lsO (fun t => HlO rs (baA 0 [] L []) (wdL.getD 3 [], [t]))
def ok0 (rs : List Rul) (L : List (List Cd)) : Prop := Evb rs (baA 0 [] L []) ∧ cnO rs (baA 0 [] L []) (wdL.getD 3 []) ≤ 60
/-- all states that can come, and what comes behind each; or too great -/
noncomputable def xO (rs : List Rul) (L : List (List Cd)) : Option (List (List (List Cd)) × List (List Nat)) := @ite _ (ok0 rs L) (Classical.propDecidable _) (xN rs L 300 0 [s0O rs L] (wkO rs (baA 0 [] L [])) []) none
/-- goals and numbers of moves of the first two roles -/
noncomputable def glX (rs : List Rul) (L st : List (List Cd)) (r : Nat) : Int := if r < L.length then glO rs L st r else -1
noncomputable def mnX (rs : List Rul) (L st : List (List Cd)) (r : Nat) : Nat := if r < L.length then (mvO rs L st r).length else 0
/-! ===== the reference: is it the same state, a state's number ===== -/
theorem St_eq {m m' : PM} {p p' : List Cd} (h : GdT m p) (h' : GdT m' p') (l1 : tlC p ≤ 48) (l2 : tlC p' ≤ 48) (e : ∀ j : Nat, j < 49 → (tx p).getD j 0 = (tx p').getD j 0) : p = p' := by
  have a1 := (GdT_48 h l1).1
  have a2 := (GdT_48 h' l2).1
  refine tx_inj h h' (gD_ext (fun x hx => ?_) (fun x hx => ?_) (fun j => ?_))
  · have := (GdT_sg h).1 x hx
    omega
  · have := (GdT_sg h').1 x hx
    omega
  · by_cases q : j < 49
    · exact e j q
    · rw [gD_out (by omega), gD_out (by omega)]
section RNU
variable {d : Nat} {μ : am_Mem} {l : PM} {Q : Option Value ⊕ Nat → am_Mem → Prop}
theorem c_sameState {m : PM} {i k : Int} {st s : List (List Cd)} (H : RS μ) (hi : 0 ≤ i ∧ i < 302) (hk : 0 ≤ k ∧ k < 302) (h : StR m i st) (h' : StR m k s) : Wp d 256 (0, [some (.ref 125), some (.int (zI i)), some (.int (zI k)), none, none], [], sA μ m l) (pI (fun y μ' => y = zI (bP (st = s)) ∧ μ' = sA μ m l) noX) := by
  obtain ⟨a1, a2, a3, a4⟩ := h
  obtain ⟨b1, b2, b3, b4⟩ := h'
  have rg : ∀ (i : Int) (st : List (List Cd)), (∀ k : Nat, k < st.length → TxR m 171 (2940 * i + 49 * (k : Int)) (st.getD k []) ∧ GdT m (st.getD k []) ∧ tlC (st.getD k []) ≤ 48) → ∀ x : Nat, x < 49 * st.length → m 171 (2940 * i + (x : Int)) = (tx (st.getD (x / 49) [])).getD (x % 49) 0 ∧ 0 ≤ m 171 (2940 * i + (x : Int)) ∧ m 171 (2940 * i + (x : Int)) ≤ 122 := fun i st s4 x h2 => by
    have hq : x / 49 < st.length := by omega
    have z := (s4 _ hq).1 (x % 49) (by omega)
    rw [show 2940 * i + 49 * ((x / 49 : Nat) : Int) + ((x % 49 : Nat) : Int) = 2940 * i + (x : Int) by omega] at z
    refine ⟨z, ?_⟩
    rw [z]
    by_cases y : x % 49 < (tx (st.getD (x / 49) [])).length
    · have := GdT_g (s4 _ hq).2.1 y
      omega
    · rw [gD_out (by omega)]
      decide
  have loop : ∀ (f x : Nat) (x3 : Int), x + f = 49 * st.length → (x3 = 0 ∧ ¬ st = s ∨ x3 = 1 ∧ st.length = s.length ∧ ∀ y : Nat, y < x → m 171 (2940 * i + (y : Int)) = m 171 (2940 * k + (y : Int))) → Wp d 256 (24, [some (.ref 125), some (.int (zI i)), some (.int (zI k)), some (.int (zI x3)), some (.int (zI (x : Int)))], [], sA μ m l) (pI (fun y μ' => y = zI (bP (st = s)) ∧ μ' = sA μ m l) noX) := by
    intro f
    induction f with
    | zero =>
      intro x x3 hx hc
      refine R256_24 H ⟨hi, ⟨by omega, by omega⟩, by rw [a1]; exact ⟨by omega, by omega⟩, fun _ => ⟨by omega, ?_, rfl⟩, fun z => absurd (by omega) z⟩
      rcases hc with ⟨e, hn⟩ | ⟨e, hl, hs⟩
      · rw [e, bP_0 hn]
      · rw [e, bP_1 ?_]
        refine List.ext_getElem hl (fun q q1 q2 => ?_)
        have z : st.getD q [] = s.getD q [] := by
          refine St_eq (a4 q q1).2.1 (b4 q q2).2.1 (a4 q q1).2.2 (b4 q q2).2.2 (fun j hj => ?_)
          rw [← (a4 q q1).1 j hj, ← (b4 q q2).1 j hj]
          have y := hs (49 * q + j) (by omega)
          rw [show 2940 * i + 49 * (q : Int) + (j : Int) = 2940 * i + ((49 * q + j : Nat) : Int) by omega, show 2940 * k + 49 * (q : Int) + (j : Int) = 2940 * k + ((49 * q + j : Nat) : Int) by omega]
          exact y
        rw [List.getD_eq_getElem?_getD, List.getElem?_eq_getElem q1, List.getD_eq_getElem?_getD, List.getElem?_eq_getElem q2] at z
        exact z
    | succ f ih =>
      intro x x3 hx hc
      refine R256_24 H ⟨hi, ⟨by omega, by omega⟩, by rw [a1]; exact ⟨by omega, by omega⟩, fun z => by omega, fun _ => ⟨⟨by omega, by omega⟩, fun z => ⟨by omega, ?_, rfl⟩, fun z => ?_⟩⟩
      · rcases hc with ⟨e, hn⟩ | ⟨e, _⟩
        · rw [e, bP_0 hn]
        · omega
      · rcases hc with ⟨e, _⟩ | ⟨e, hl, hs⟩
        · exact absurd e z
        have g1 := rg i st a4 x (by omega)
        have g2 := rg k s b4 x (by omega)
        refine ⟨⟨by omega, by omega⟩, ⟨by omega, by omega⟩, ⟨by omega, by omega⟩, ⟨by omega, by omega⟩, ?_⟩
        rintro v1 e1
        have go := ih (x + 1) v1 (by omega) ?_
        · rw [show ((x + 1 : Nat) : Int) = (x : Int) + 1 by omega] at go
          exact go
        · by_cases y : m 171 (2940 * i + (x : Int)) = m 171 (2940 * k + (x : Int))
          · rw [if_neg (fun z => z y)] at e1
            refine Or.inr ⟨e1, hl, fun y' hy' => ?_⟩
            by_cases y2 : y' = x
            · rw [y2]; exact y
            · exact hs y' (by omega)
          · rw [if_pos y] at e1
            refine Or.inl ⟨e1, fun e => y ?_⟩
            rw [g1.1, g2.1, e]
  refine R256_0 H ⟨hi, hk, by rw [a1]; exact ⟨by omega, by omega⟩, by rw [b1]; exact ⟨by omega, by omega⟩, ?_⟩
  rintro v1 e1
  rw [a1, b1] at e1
  refine loop (49 * st.length) 0 v1 (by omega) ?_
  by_cases y : st.length = s.length
  · rw [if_neg (fun z => z (by omega))] at e1
    exact Or.inr ⟨e1, y, fun y' hy' => by omega⟩
  · rw [if_pos (by omega)] at e1
    exact Or.inl ⟨e1, fun e => y (by rw [e])⟩
theorem StR_cg {m m' : PM} {i : Int} {st : List (List Cd)} (k : ∀ c j, ((c = 172 ∧ j = i) ∨ (c = 171 ∧ 2940 * i ≤ j ∧ j < 2940 * i + 2940) ∨ c = 129 ∨ c = 130 ∨ (c = 125 ∧ j = 9)) → m' c j = m c j) (h : StR m i st) : StR m' i st := by
  obtain ⟨h1, h2, h3, h4⟩ := h
  refine ⟨by rw [k _ _ (by omega)]; exact h1, h2, h3, fun q hq => ?_⟩
  obtain ⟨a1, a2, a3⟩ := h4 q hq
  exact ⟨fun j hj => by rw [k _ _ (by omega)]; exact a1 j hj, GdT_cg (k _ _ (by omega)) (fun i => k _ _ (by omega)) (fun i => k _ _ (by omega)) a2, a3⟩
theorem c_number {m : PM} {sts : List (List (List Cd))} {s : List (List Cd)} (H : RS μ) (h83 : m 125 83 = (sts.length : Int)) (h300 : sts.length ≤ 300) (hst : ∀ i : Nat, i < sts.length → StR m (i : Int) (sts.getD i [])) (hs : StR m 301 s)
    (hin : s ∈ sts → Q (.inl (some (.int (zI (ixS s sts : Int))))) (sA μ m l))
    (hfull : ¬ s ∈ sts → sts.length = 300 → Q (.inl (some (.int (zI (-1))))) (sA μ m l))
    (hnew : ∀ m' : PM, ¬ s ∈ sts → sts.length < 300 → m' 125 83 = (sts.length : Int) + 1 → StR m' (sts.length : Int) s → (∀ c j, ¬ ((c = 125 ∧ j = 83) ∨ (c = 172 ∧ j = (sts.length : Int)) ∨ (c = 171 ∧ 2940 * (sts.length : Int) ≤ j ∧ j < 2940 * (sts.length : Int) + 2940)) → m' c j = m c j) → Q (.inl (some (.int (zI (sts.length : Int))))) (sA μ m' l)) :
    Wp (d + 1) 255 (0, [some (.ref 125), none], [], sA μ m l) Q := by
  have loop : ∀ (f k : Nat), k + f = sts.length → (∀ i, i < k → ¬ sts.getD i [] = s) → Wp (d + 1) 255 (2, [some (.ref 125), some (.int (zI (k : Int)))], [], sA μ m l) Q := by
    intro f
    induction f with
    | zero =>
      intro k hk hn
      have hno : ¬ s ∈ sts := fun z => by
        obtain ⟨i, hi, e⟩ := (mem_gD sts [] s).mp z
        exact hn i (by omega) e
      refine R255_2 H ⟨⟨by omega, by omega⟩, by rw [h83]; exact ⟨by omega, by omega⟩, fun _ => ⟨fun z => ?_, fun z => ?_⟩, fun z => absurd (by omega) z⟩
      · have h3 : sts.length < 300 := by omega
        rw [h83]
        refine ⟨_, _, c_copyState (d := d) (l := l) H (i := 301) (k := (sts.length : Int)) ⟨by decide, by decide⟩ ⟨by omega, by omega⟩ (by omega) hs, fun μ' hp => ?_, fun _ _ z => z.elim⟩
        obtain ⟨m1, rfl, s1, f1⟩ := hp
        have e83 : m1 125 83 = (sts.length : Int) := by rw [f1 _ _ (by omega)]; exact h83
        refine R255_52 H ?_
        rw [e83, show (sts.length : Int) + 1 - 1 = (sts.length : Int) by omega]
        exact hnew _ hno h3 (up_s _ _ _ _) (StR_cg (fun c j z => up_o (by omega)) s1) (fun c j z => by rw [up_o (by omega)]; exact f1 c j (by omega))
      · exact hfull hno (by have := Classical.byContradiction z; omega)
    | succ f ih =>
      intro k hk hn
      refine R255_2 H ⟨⟨by omega, by omega⟩, by rw [h83]; exact ⟨by omega, by omega⟩, fun z => by omega, fun _ => ?_⟩
      refine ⟨_, _, c_sameState (d := d) (l := l) H ⟨by omega, by omega⟩ ⟨by decide, by decide⟩ (hst k (by omega)) hs, fun y μ' hp => ?_, fun _ _ z => z.elim⟩
      obtain ⟨rfl, rfl⟩ := hp
      by_cases y : sts.getD k [] = s
      · rw [bP_1 y]
        refine R255_18 H ⟨⟨by decide, by decide⟩, fun z => absurd z (by decide), fun _ => ?_⟩
        have hm : s ∈ sts := (mem_gD sts [] s).mpr ⟨k, by omega, y⟩
        have := hin hm
        rw [ixS_eq (by omega) y hn] at this
        exact this
      · rw [bP_0 y]
        refine R255_18 H ⟨⟨by decide, by decide⟩, fun _ => ?_, fun z => absurd rfl z⟩
        have go := ih (k + 1) (by omega) (fun i hi => by
          by_cases e : i = k
          · rw [e]; exact y
          · exact hn i (by omega))
        rw [show ((k + 1 : Nat) : Int) = (k : Int) + 1 by omega] at go
        exact go
  exact R255_0 H (loop sts.length 0 (by omega) (fun i hi => absurd hi (Nat.not_lt_zero i)))
end RNU
