/-! ===== the reference: copies of states, ends, goals, joint moves ===== -/
theorem zLDiv_n {a b : Int} (ha : 0 ≤ a ∧ a ≤ 9000000000000000000) (hb : 0 < b ∧ b ≤ 9000000000000000000) : zLDiv a b = a / b := by
  unfold zLDiv
  have h1 : 0 ≤ a / b := Int.ediv_nonneg ha.1 (by omega)
  have h2 : a / b ≤ a := Int.ediv_le_self b ha.1
  rw [Int64.toInt_div, zL_toInt ⟨by omega, by omega⟩, zL_toInt ⟨by omega, by omega⟩, Int.tdiv_eq_ediv_of_nonneg ha.1]
  exact Int.bmod_eq_of_le (by omega) (by omega)
/-- the number that digits tell -/
def gl1 (v c : Int) : Int := if 48 ≤ c ∧ c ≤ 57 then 10 * v + c - 48 else -1
def glF : Int → List Int → Int
  | v, [] => v
  | v, c :: cs => if v < 0 then v else glF (gl1 v c) cs
/-- a goal's number; -1 if the term is none -/
def glT (cs : List Cd) : Int := match cs with
  | [(0, w)] => if 4 ≤ w.length then -1 else if glF 0 w ≤ 100 then glF 0 w else -1
  | _ => -1
theorem glF_n {v : Int} (h : v < 0) (cs : List Int) : glF v cs = v := by
  cases cs with
  | nil => rfl
  | cons c cs => unfold glF; rw [if_pos h]
/-- the goal that some terms tell: -1 for none, -2 for several -/
def GlI (P : List Cd → Prop) (v : Int) : Prop := (v = -1 ∧ ∀ t, P t → glT t < 0) ∨ (0 ≤ v ∧ (∃ t, P t ∧ glT t = v) ∧ ∀ t, P t → glT t < 0 ∨ glT t = v) ∨ (v = -2 ∧ ∃ t t', P t ∧ P t' ∧ 0 ≤ glT t ∧ 0 ≤ glT t' ∧ ¬ glT t = glT t')
theorem GlI_uni {P : List Cd → Prop} {v v' : Int} (h : GlI P v) (h' : GlI P v') : v = v' := by
  rcases h with ⟨e, h⟩ | ⟨e, ⟨t, p, q⟩, h⟩ | ⟨e, t, t', p, p', q, q', r⟩ <;> rcases h' with ⟨e', h'⟩ | ⟨e', ⟨s, a, b⟩, h'⟩ | ⟨e', s, s', a, a', b, b', c⟩
  · omega
  · have := h s a; omega
  · have := h s a; omega
  · have := h' t p; omega
  · rcases h s a with z | z <;> omega
  · rcases h s a with z | z <;> rcases h s' a' with y | y <;> omega
  · have := h' t p; omega
  · rcases h' t p with z | z <;> rcases h' t' p' with y | y <;> omega
  · omega
theorem GlI_cg {P P' : List Cd → Prop} {v : Int} (h : ∀ t, P t ↔ P' t) (g : GlI P v) : GlI P' v := by rw [show P' = P from funext fun t => propext (h t).symm]; exact g
theorem GlI_step {P : List Cd → Prop} {v : Int} {t : List Cd} (h : GlI P v) {v' : Int} (e : v' = if glT t < 0 then v else if ¬ glT t = v then (if ¬ v = -1 then (-2 : Int) else glT t) else v) : GlI (fun s => P s ∨ s = t) v' := by
  by_cases g0 : glT t < 0
  · rw [if_pos g0] at e
    rw [e]
    rcases h with ⟨e1, h⟩ | ⟨e1, ⟨s, p, q⟩, h⟩ | ⟨e1, s, s', p, p', q, q', r⟩
    · refine Or.inl ⟨e1, fun s hs => ?_⟩
      rcases hs with hs | hs
      · exact h s hs
      · rw [hs]; exact g0
    · refine Or.inr (Or.inl ⟨e1, ⟨s, Or.inl p, q⟩, fun s' hs => ?_⟩)
      rcases hs with hs | hs
      · exact h s' hs
      · rw [hs]; exact Or.inl g0
    · exact Or.inr (Or.inr ⟨e1, s, s', Or.inl p, Or.inl p', q, q', r⟩)
  · rw [if_neg g0] at e
    by_cases gv : glT t = v
    · rw [if_neg (fun z => z gv)] at e
      rw [e]
      rcases h with ⟨e1, h⟩ | ⟨e1, ⟨s, p, q⟩, h⟩ | ⟨e1, s, s', p, p', q, q', r⟩
      · omega
      · refine Or.inr (Or.inl ⟨e1, ⟨s, Or.inl p, q⟩, fun s' hs => ?_⟩)
        rcases hs with hs | hs
        · exact h s' hs
        · rw [hs]; exact Or.inr gv
      · omega
    · rw [if_pos gv] at e
      by_cases v1 : v = -1
      · rw [if_neg (fun z => z v1)] at e
        rw [e]
        rcases h with ⟨e1, h⟩ | ⟨e1, ⟨s, p, q⟩, h⟩ | ⟨e1, s, s', p, p', q, q', r⟩
        · refine Or.inr (Or.inl ⟨by omega, ⟨t, Or.inr rfl, rfl⟩, fun s' hs => ?_⟩)
          rcases hs with hs | hs
          · exact Or.inl (h s' hs)
          · rw [hs]; exact Or.inr rfl
        · omega
        · omega
      · rw [if_pos v1] at e
        rw [e]
        rcases h with ⟨e1, h⟩ | ⟨e1, ⟨s, p, q⟩, h⟩ | ⟨e1, s, s', p, p', q, q', r⟩
        · omega
        · exact Or.inr (Or.inr ⟨rfl, s, t, Or.inl p, Or.inr rfl, by omega, by omega, by omega⟩)
        · exact Or.inr (Or.inr ⟨rfl, s, s', Or.inl p, Or.inl p', q, q', r⟩)
/-- how many joint moves -/
def jmP (mv : Nat → List (List Cd)) : Nat → Nat
  | 0 => 1
  | r + 1 => jmP mv r * (mv r).length
def jmN (n : Nat) (mv : Nat → List (List Cd)) : Nat := if n = 0 then 0 else jmP mv n
/-- the moves of a joint move -/
def chI (mv : Nat → List (List Cd)) : Nat → Nat → Nat → Nat
  | 0, _, _ => 0
  | n + 1, j, r => if r = n then j % (mv n).length else chI mv n (j / (mv n).length) r
theorem jmP_le {mv : Nat → List (List Cd)} {n : Nat} (h : ∀ r, r < n → (mv r).length ≤ 1000) : jmP mv n ≤ 1000 ^ n := by
  induction n with
  | zero => exact Nat.le_refl _
  | succ n ih =>
    show jmP mv n * (mv n).length ≤ 1000 ^ n * 1000
    exact Nat.mul_le_mul (ih (fun r hr => h r (by omega))) (h n (by omega))
section RGO
variable {d : Nat} {μ : am_Mem} {l : PM} {Q : Option Value ⊕ Nat → am_Mem → Prop} {T : Nat} {W : Int → Nat} {rs : List Rul} {S : List Atm}
theorem c_copyState {m : PM} {i k : Int} {st : List (List Cd)} (H : RS μ) (hi : 0 ≤ i ∧ i < 302) (hk : 0 ≤ k ∧ k < 302) (hne : ¬ i = k) (hs : StR m i st) : Wp d 239 (0, [some (.ref 125), some (.int (zI i)), some (.int (zI k)), none], [], sA μ m l) (pV (fun μ' => ∃ m', μ' = sA μ m' l ∧ StR m' k st ∧ ∀ c j, ¬ ((c = 172 ∧ j = k) ∨ (c = 171 ∧ 2940 * k ≤ j ∧ j < 2940 * k + 2940)) → m' c j = m c j) noX) := by
  obtain ⟨s1, s2, s3, s4⟩ := id hs
  have rg : ∀ x : Int, 0 ≤ x → x < 49 * (st.length : Int) → m 171 (2940 * i + x) = (tx (st.getD (x / 49).toNat [])).getD (x % 49).toNat 0 ∧ 0 ≤ m 171 (2940 * i + x) ∧ m 171 (2940 * i + x) ≤ 122 := fun x h1 h2 => by
    have hq : (x / 49).toNat < st.length := by omega
    have z := (s4 _ hq).1 (x % 49).toNat (by omega)
    rw [show 2940 * i + 49 * (((x / 49).toNat : Nat) : Int) + (((x % 49).toNat : Nat) : Int) = 2940 * i + x by omega] at z
    refine ⟨z, ?_⟩
    rw [z]
    by_cases y : (x % 49).toNat < (tx (st.getD (x / 49).toNat [])).length
    · have := GdT_g (s4 _ hq).2.1 y
      omega
    · rw [gD_out (by omega)]
      decide
  have loop : ∀ (f x : Nat) (m1 : PM), x + f = 49 * st.length → m1 172 k = (st.length : Int) → (∀ y : Int, 0 ≤ y → y < (x : Int) → m1 171 (2940 * k + y) = m 171 (2940 * i + y)) → (∀ c j, ¬ ((c = 172 ∧ j = k) ∨ (c = 171 ∧ 2940 * k ≤ j ∧ j < 2940 * k + 2940)) → m1 c j = m c j) → Wp d 239 (14, [some (.ref 125), some (.int (zI i)), some (.int (zI k)), some (.int (zI (x : Int)))], [], sA μ m1 l) (pV (fun μ' => ∃ m', μ' = sA μ m' l ∧ StR m' k st ∧ ∀ c j, ¬ ((c = 172 ∧ j = k) ∨ (c = 171 ∧ 2940 * k ≤ j ∧ j < 2940 * k + 2940)) → m' c j = m c j) noX) := by
    intro f
    induction f with
    | zero =>
      intro x m1 hx h172 hc fr
      have e1 : m1 172 i = (st.length : Int) := by rw [fr _ _ (by omega)]; exact s1
      refine R239_14 H ⟨hi, ⟨by omega, by omega⟩, by rw [e1]; exact ⟨by omega, by omega⟩, fun _ => ⟨m1, rfl, ⟨h172, s2, s3, fun q hq => ?_⟩, fr⟩, fun z => by rw [e1] at z; omega⟩
      obtain ⟨a1, a2, a3⟩ := s4 q hq
      refine ⟨fun j hj => ?_, GdT_cg (fr _ _ (by omega)) (fun i => fr _ _ (by omega)) (fun i => fr _ _ (by omega)) a2, a3⟩
      rw [show 2940 * k + 49 * (q : Int) + (j : Int) = 2940 * k + (49 * (q : Int) + (j : Int)) by omega, hc _ (by omega) (by omega), ← a1 j hj]
      congr 1
      omega
    | succ f ih =>
      intro x m1 hx h172 hc fr
      have e1 : m1 172 i = (st.length : Int) := by rw [fr _ _ (by omega)]; exact s1
      have e2 : m1 171 (2940 * i + (x : Int)) = m 171 (2940 * i + (x : Int)) := fr _ _ (by omega)
      have hr := rg (x : Int) (by omega) (by omega)
      refine R239_14 H ⟨hi, ⟨by omega, by omega⟩, by rw [e1]; exact ⟨by omega, by omega⟩, fun z => by rw [e1] at z; omega, fun _ => ⟨⟨by omega, by omega⟩, ⟨by omega, by omega⟩, by rw [e2]; exact ⟨by omega, by omega⟩, ?_⟩⟩
      rw [e2]
      rintro m2 e3
      have go := ih (x + 1) m2 (by omega) (by rw [e3, up_c (by decide)]; exact h172) (fun y h1 h2 => by
        by_cases z : y = (x : Int)
        · rw [z, e3, up_s]
        · rw [e3, up_i (by omega)]
          exact hc y h1 (by omega)) (fun c j z => by rw [e3, up_o (by omega)]; exact fr c j z)
      rw [show ((x + 1 : Nat) : Int) = (x : Int) + 1 by omega] at go
      exact go
  refine R239_0 H ⟨hi, hk, ?_⟩
  rintro m1 e1
  rw [s1] at e1
  have go := loop (49 * st.length) 0 m1 (by omega) (by rw [e1, up_s]) (fun y h1 h2 => by omega) (fun c j z => by rw [e1, up_o (by omega)])
  exact go
theorem c_isOver {m : PM} (H : RS μ) (hw : WkR W rs m T S) : Wp d 245 (0, [some (.ref 125)], [], sA μ m l) (pI (fun y μ' => y = zI (bP (0 < cntA S (wdL.getD 9 []))) ∧ μ' = sA μ m l) noX) := by
  have hD := hw.1.2.2.1
  have hx : nX m 9 (wdL.getD 9 []) := ⟨by decide, by have := hD.2.1; omega, hD.2.2 9 (by decide)⟩
  have e : m 160 9 = (cntA S (wdL.getD 9 []) : Int) := by rw [(hw.2.2.2.2.1.2.2.2.1 9 hx.1 hx.2.1).1]; exact cnt_F hw.2.2.2.2.2.1 hD hx
  have hS := hw.2.2.2.2.1.2.1
  have hc : cntA S (wdL.getD 9 []) ≤ 1000 := Nat.le_trans (List.length_filter_le _ _) hS
  refine R245_0 H ⟨by rw [e]; exact ⟨by omega, by omega⟩, ?_⟩
  rintro v1 e1
  rw [e] at e1
  refine ⟨?_, rfl⟩
  by_cases z : 0 < cntA S (wdL.getD 9 [])
  · rw [if_neg (by omega)] at e1
    rw [e1, bP_1 z]
  · rw [if_pos (by omega)] at e1
    rw [e1, bP_0 z]
theorem c_goalOf {m : PM} {u : Nat} {cs : List Cd} (H : RS μ) (hb : TbR m T) (hu : u < T) (hg : Tg m u cs) : Wp (d + 1) 248 (0, [some (.ref 125), some (.int (zI (u : Int))), none, none, none, none], [], sA μ m l) (pI (fun y μ' => y = zI (glT cs) ∧ μ' = sA μ m l) noX) := by
  obtain ⟨w, ps, h1, h2, h3, h4, _⟩ := hg
  obtain ⟨x1, x2, x3⟩ := id h3
  have hT := hb.1.2.1
  have h9 := hb.2.2.2.2.2
  have hW := hb.2.2.2.1
  have hl := nX_len hW h3
  obtain ⟨a1, a2, a3⟩ := hW.2.2 (m 149 (u : Int)).toNat (by have := hW.1; omega)
  rw [show (((m 149 (u : Int)).toNat : Nat) : Int) = m 149 (u : Int) by omega] at a1 a2 a3
  have hsg : ∀ k : Nat, k < w.length → m 129 (16 * m 149 (u : Int) + k) = w.getD k 0 := fun k hk => by
    rw [← x3]
    unfold nmR
    rw [show (((m 149 (u : Int)).toNat : Nat) : Int) = m 149 (u : Int) by omega]
    exact (sl_get _ _ _ _ (by omega)).symm
  have loop : ∀ (f k : Nat) (v : Int) (o5 : Option Value), k + f = w.length → (v = -1 ∨ (0 ≤ v ∧ ((k = 0 ∧ v ≤ 0) ∨ (k = 1 ∧ v ≤ 9) ∨ (k = 2 ∧ v ≤ 99) ∨ (k = 3 ∧ v ≤ 999)))) → (if glF v (w.drop k) ≤ 100 then glF v (w.drop k) else -1) = glT cs → (0 ≤ v → w.length < 4) → Wp (d + 1) 248 (35, [some (.ref 125), some (.int (zI (u : Int))), some (.int (zI (m 149 (u : Int)))), some (.int (zI v)), some (.int (zI (k : Int))), o5], [], sA μ m l) (pI (fun y μ' => y = zI (glT cs) ∧ μ' = sA μ m l) noX) := by
    intro f
    induction f with
    | zero =>
      intro k v o5 hk hv hgl h4'
      have hvR : iR v := ⟨by omega, by omega⟩
      rw [List.drop_eq_nil_of_le (by omega)] at hgl
      refine R248_35 H ⟨⟨by omega, by omega⟩, ⟨by omega, by omega⟩, ⟨by omega, by omega⟩, fun _ => ⟨hvR, ?_⟩, fun z => by omega⟩
      rintro v1 e1
      rw [e1]
      exact ⟨congrArg zI hgl, rfl⟩
    | succ f ih =>
      intro k v o5 hk hv hgl h4'
      have hvR : iR v := ⟨by omega, by omega⟩
      have hs := hsg k (by omega)
      have hr := a3 k (by omega)
      refine R248_35 H ⟨⟨by omega, by omega⟩, ⟨by omega, by omega⟩, ⟨by omega, by omega⟩, fun z => by omega, fun _ => ⟨hvR, fun z => ?_, fun z => ⟨⟨by omega, by omega⟩, hr, ?_⟩⟩⟩
      · rintro v2 e2
        rw [e2]
        rw [glF_n z] at hgl
        exact ⟨congrArg zI hgl, rfl⟩
      · rintro v3 e3 v4 e4 v5 e5
        rw [hs] at e3 e4
        have eg : v5 = gl1 v (w.getD k 0) := by
          unfold gl1
          by_cases y : 48 ≤ w.getD k 0 ∧ w.getD k 0 ≤ 57
          · rw [if_pos y] at e4
            rw [e5, if_neg (by omega), if_pos y, e3]
          · rw [if_neg y] at e4
            rw [e5, if_pos e4, if_neg y]
        have ed : w.drop k = w.getD k 0 :: w.drop (k + 1) := by
          rw [List.drop_eq_getElem_cons (by omega), List.getD_eq_getElem?_getD, List.getElem?_eq_getElem (by omega)]
          rfl
        have e2 : glF v (w.drop k) = glF v5 (w.drop (k + 1)) := by
          rw [ed, eg]
          show (if v < 0 then v else glF (gl1 v (w.getD k 0)) (w.drop (k + 1))) = _
          rw [if_neg z]
        rw [e2] at hgl
        have hb5 : v5 = -1 ∨ (0 ≤ v5 ∧ v5 ≤ 10 * v + 9) := by
          rw [eg]
          unfold gl1
          by_cases y : 48 ≤ w.getD k 0 ∧ w.getD k 0 ≤ 57
          · rw [if_pos y]; exact Or.inr ⟨by omega, by omega⟩
          · rw [if_neg y]; exact Or.inl rfl
        have hw4 := h4' (by omega)
        have go := ih (k + 1) v5 (some (.int (zI v3))) (by omega) (by omega) hgl (fun _ => hw4)
        rw [show ((k + 1 : Nat) : Int) = (k : Int) + 1 by omega] at go
        exact go
  refine R248_0 H ⟨⟨by omega, by omega⟩, by rw [h4]; exact ⟨by omega, by omega⟩, ⟨fun _ => trivial, fun _ => ⟨⟨by omega, by omega⟩, ⟨by omega, by omega⟩, trivial⟩⟩, ?_⟩
  rintro v1 e1
  rw [h4, hl] at e1
  by_cases p0 : ps.length = 0
  · have ep : ps = [] := List.eq_nil_of_length_eq_zero p0
    have ec : cs = [(0, w)] := by rw [h1, ep]; rfl
    rw [if_neg (fun z => z (by omega))] at e1
    by_cases w4 : 4 ≤ w.length
    · rw [if_pos (by omega)] at e1
      rw [e1]
      refine loop w.length 0 (-1) none (by omega) (Or.inl rfl) ?_ (fun z => by omega)
      rw [glF_n (by decide), ec]
      show _ = (if 4 ≤ w.length then -1 else _)
      rw [if_pos w4]
      rfl
    · rw [if_neg (by omega)] at e1
      rw [e1]
      refine loop w.length 0 0 none (by omega) (Or.inr ⟨by decide, Or.inl ⟨rfl, by decide⟩⟩) ?_ (fun _ => by omega)
      rw [ec]
      show _ = (if 4 ≤ w.length then -1 else _)
      rw [if_neg w4]
      rfl
  · rw [if_pos (by omega)] at e1
    rw [e1]
    refine loop w.length 0 (-1) none (by omega) (Or.inl rfl) ?_ (fun z => by omega)
    rw [glF_n (by decide), h1]
    cases ps with
    | nil => exact absurd rfl p0
    | cons p ps => rfl
end RGO
