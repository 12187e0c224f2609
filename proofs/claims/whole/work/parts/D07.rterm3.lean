/-! ===== the reference's terms: what a term's number means ===== -/
/-- term t has these codes -/
def TgR : Nat → PM → Nat → List Cd → Prop
  | 0, _, _, _ => False
  | f + 1, m, t, cs => ∃ (w : List Int) (ps : List (List Cd)), cs = (ps.length, w) :: ps.flatten ∧ ps.length ≤ 4 ∧ nX m (m 149 t) w ∧ m 150 t = (ps.length : Int) ∧ ∀ k : Nat, k < ps.length → ∃ u : Nat, m 151 (4 * (t : Int) + k) = (u : Int) ∧ u < t ∧ TgR f m u (ps.getD k [])
abbrev Tg (m : PM) (t : Nat) (cs : List Cd) : Prop := TgR (t + 1) m t cs
theorem TgR_mono {m : PM} : ∀ (f f' t : Nat) (cs : List Cd), f ≤ f' → TgR f m t cs → TgR f' m t cs := by
  intro f
  induction f with
  | zero => intro f' t cs _ h; exact absurd h (fun z => z)
  | succ f ih =>
    intro f' t cs hf h
    obtain ⟨g, rfl⟩ : ∃ g, f' = g + 1 := ⟨f' - 1, by omega⟩
    obtain ⟨w, ps, h1, h2, h3, h4, h5⟩ := h
    refine ⟨w, ps, h1, h2, h3, h4, fun k hk => ?_⟩
    obtain ⟨u, e1, e2, e3⟩ := h5 k hk
    exact ⟨u, e1, e2, ih g u _ (by omega) e3⟩
theorem Tg_of {m : PM} : ∀ (f t : Nat) (cs : List Cd), TgR f m t cs → Tg m t cs := by
  intro f
  induction f with
  | zero => intro t cs h; exact absurd h (fun z => z)
  | succ f ih =>
    intro t cs h
    obtain ⟨w, ps, h1, h2, h3, h4, h5⟩ := h
    refine ⟨w, ps, h1, h2, h3, h4, fun k hk => ?_⟩
    obtain ⟨u, e1, e2, e3⟩ := h5 k hk
    exact ⟨u, e1, e2, TgR_mono _ _ _ _ (by omega) (ih u _ e3)⟩
/-- term t by its name and its parts -/
theorem Tg_mk {m : PM} {t : Nat} {w : List Int} {ps : List (List Cd)} (h2 : ps.length ≤ 4) (h3 : nX m (m 149 t) w) (h4 : m 150 t = (ps.length : Int)) (h5 : ∀ k : Nat, k < ps.length → ∃ u : Nat, m 151 (4 * (t : Int) + k) = (u : Int) ∧ u < t ∧ Tg m u (ps.getD k [])) : Tg m t ((ps.length, w) :: ps.flatten) := by
  refine ⟨w, ps, rfl, h2, h3, h4, fun k hk => ?_⟩
  obtain ⟨u, e1, e2, e3⟩ := h5 k hk
  exact ⟨u, e1, e2, TgR_mono _ _ _ _ (by omega) e3⟩
theorem TgR_cg {m m' : PM} {T : Nat} (e9 : m' 125 9 = m 125 9) (e129 : ∀ i, m' 129 i = m 129 i) (e130 : ∀ i, m' 130 i = m 130 i) (k1 : ∀ t : Nat, t < T → m' 149 t = m 149 t ∧ m' 150 t = m 150 t ∧ ∀ k : Nat, k < 4 → m' 151 (4 * (t : Int) + k) = m 151 (4 * (t : Int) + k)) : ∀ (f t : Nat) (cs : List Cd), t < T → TgR f m t cs → TgR f m' t cs := by
  intro f
  induction f with
  | zero => intro t cs _ h; exact absurd h (fun z => z)
  | succ f ih =>
    intro t cs ht h
    obtain ⟨w, ps, h1, h2, h3, h4, h5⟩ := h
    obtain ⟨a1, a2, a3⟩ := k1 t ht
    refine ⟨w, ps, h1, h2, by rw [a1]; exact nX_cg e9 e129 e130 h3, by rw [a2]; exact h4, fun k hk => ?_⟩
    obtain ⟨u, e1, e2, e3⟩ := h5 k hk
    exact ⟨u, by rw [a3 k (by omega)]; exact e1, e2, ih u _ (by omega) e3⟩
theorem ext_gD2 {ps qs : List (List Cd)} (hl : ps.length = qs.length) (h : ∀ k, k < ps.length → ps.getD k [] = qs.getD k []) : ps = qs := by
  refine List.ext_getElem hl fun k h1 h2 => ?_
  have z := h k h1
  rw [List.getD_eq_getElem?_getD, List.getD_eq_getElem?_getD, List.getElem?_eq_getElem h1, List.getElem?_eq_getElem h2] at z
  exact z
theorem TgR_fun {m : PM} : ∀ (f f' t : Nat) (cs cs' : List Cd), TgR f m t cs → TgR f' m t cs' → cs = cs' := by
  intro f
  induction f with
  | zero => intro f' t cs cs' h; exact absurd h (fun z => z)
  | succ f ih =>
    intro f' t cs cs' h h'
    cases f' with
    | zero => exact absurd h' (fun z => z)
    | succ f' =>
      obtain ⟨w, ps, h1, h2, h3, h4, h5⟩ := h
      obtain ⟨w', ps', g1, g2, g3, g4, g5⟩ := h'
      have ew : w = w' := nX_fun h3 g3
      have el : ps.length = ps'.length := by omega
      have ep : ps = ps' := ext_gD2 el fun k hk => by
        obtain ⟨u, e1, e2, e3⟩ := h5 k hk
        obtain ⟨u', d1, d2, d3⟩ := g5 k (by omega)
        have eu : u = u' := by omega
        rw [← eu] at d3
        exact ih f' u _ _ e3 d3
      rw [h1, g1, ew, ep]
theorem TgR_wf {m : PM} : ∀ (f t : Nat) (cs : List Cd), TgR f m t cs → wfS f cs := by
  intro f
  induction f with
  | zero => intro t cs h; exact absurd h (fun z => z)
  | succ f ih =>
    intro t cs h
    obtain ⟨w, ps, h1, h2, h3, h4, h5⟩ := h
    rw [h1]
    unfold wfS
    show if 5 ≤ ps.length then _ else _
    rw [if_neg (by omega)]
    refine ⟨ps, rfl, rfl, fun p hp => ?_⟩
    obtain ⟨k, hk, e⟩ := List.getElem_of_mem hp
    obtain ⟨u, _, _, e3⟩ := h5 k hk
    have eg : ps.getD k [] = p := by rw [List.getD_eq_getElem?_getD, List.getElem?_eq_getElem hk]; exact e
    rw [eg] at e3
    exact ih u p e3
/-- no term is there twice -/
def TtU (m : PM) (T : Nat) : Prop := ∀ (t t' : Nat) (x : Int) (ps : List Int), t < T → t' < T → isT m t x ps → isT m t' x ps → t = t'
theorem Tg_inj {m : PM} {T : Nat} (hU : TtU m T) (hD : NmD m) : ∀ (f t t' : Nat) (cs : List Cd), t < T → t' < T → TgR f m t cs → TgR f m t' cs → t = t' := by
  intro f
  induction f with
  | zero => intro t t' cs _ _ h; exact absurd h (fun z => z)
  | succ f ih =>
    intro t t' cs ht ht' h h'
    obtain ⟨w, ps, h1, h2, h3, h4, h5⟩ := h
    obtain ⟨w', ps', g1, g2, g3, g4, g5⟩ := h'
    rw [h1] at g1
    have e0 := List.cons.inj g1
    have el : ps.length = ps'.length := congrArg Prod.fst e0.1
    have ew : w = w' := congrArg Prod.snd e0.1
    have hw : ∀ (qs : List (List Cd)) (r : Nat), (∀ k : Nat, k < qs.length → ∃ u : Nat, m 151 (4 * (r : Int) + k) = (u : Int) ∧ u < r ∧ TgR f m u (qs.getD k [])) → ∀ p, p ∈ qs → wfS f p := by
      intro qs r hq p hp
      obtain ⟨k, hk, e⟩ := List.getElem_of_mem hp
      obtain ⟨u, _, _, e3⟩ := hq k hk
      have eg : qs.getD k [] = p := by rw [List.getD_eq_getElem?_getD, List.getElem?_eq_getElem hk]; exact e
      rw [eg] at e3
      exact TgR_wf f u p e3
    have ep : ps = ps' := (wfS_list (wfS_pre f) ps ps' [] [] el (hw ps t h5) (hw ps' t' g5) (by rw [List.append_nil, List.append_nil]; exact e0.2)).1
    have ex : m 149 t = m 149 t' := (nX_inj hD h3 g3).mpr ew
    refine hU t t' (m 149 t) (sl (m 151) (4 * (t : Int)) ps.length) ht ht' ⟨rfl, by rw [sl_len]; exact h4, by rw [sl_len]⟩ ⟨ex.symm, by rw [sl_len, g4, el], ?_⟩
    rw [sl_len, sl_eq]
    refine ⟨rfl, fun k hk => ?_⟩
    obtain ⟨u, e1, e2, e3⟩ := h5 k hk
    obtain ⟨u', d1, d2, d3⟩ := g5 k (by omega)
    rw [← ep] at d3
    rw [e1, d1, ih u u' _ (by omega) (by omega) e3 d3]
theorem Tg_in {m : PM} {T : Nat} (hU : TtU m T) (hD : NmD m) {t t' : Nat} {cs : List Cd} (ht : t < T) (ht' : t' < T) (h : Tg m t cs) (h' : Tg m t' cs) : t = t' := by
  have a := TgR_mono _ (t + 1 + (t' + 1)) t cs (by omega) h
  have b := TgR_mono _ (t + 1 + (t' + 1)) t' cs (by omega) h'
  exact Tg_inj hU hD _ t t' cs ht ht' a b
/-- how long a term's text is -/
def tlC (cs : List Cd) : Int := (cs.map fun c => (c.2.length : Int) + (if c.1 = 0 then 0 else 2 + (c.1 : Int))).sum
