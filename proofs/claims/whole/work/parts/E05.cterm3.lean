/-! ===== the class's terms: what a term's number means ===== -/
/-- term t has these codes, by the names' numbers X -/
def CgR (X : Int → List Int → Prop) (q : Nat) : Nat → PM → Nat → List Cd → Prop
  | 0, _, _, _ => False
  | f + 1, m, t, cs => ∃ (w : List Int) (ps : List (List Cd)), cs = (ps.length, w) :: ps.flatten ∧ ps.length ≤ 4 ∧ X (m q t) w ∧ m (q + 1) t = (ps.length : Int) ∧ ∀ k : Nat, k < ps.length → ∃ u : Nat, m (q + 2) (4 * (t : Int) + k) = (u : Int) ∧ u < t ∧ CgR X q f m u (ps.getD k [])
abbrev Cg (X : Int → List Int → Prop) (q : Nat) (m : PM) (t : Nat) (cs : List Cd) : Prop := CgR X q (t + 1) m t cs
section CT3
variable {X : Int → List Int → Prop} {q : Nat}
theorem CgR_mono {m : PM} : ∀ (f f' t : Nat) (cs : List Cd), f ≤ f' → CgR X q f m t cs → CgR X q f' m t cs := by
  intro f
  induction f with
  | zero => intro f' t cs _ h; exact absurd h (fun z => z)
  | succ f ih =>
    intro f' t cs hf h
    obtain ⟨g, rfl⟩ : ∃ g, f' = g + 1 := ⟨f' - 1, by omega⟩
    obtain ⟨w, ps, h1, h2, h3, h4, h5⟩ := h
    refine ⟨w, ps, h1, h2, h3, h4, fun k hk => ?_⟩
    obtain ⟨u, e1, e2, e3⟩ := h5 k hk
    exact ⟨u, e1, e2, ih g u _ (by omega) e3⟩
theorem Cg_of {m : PM} : ∀ (f t : Nat) (cs : List Cd), CgR X q f m t cs → Cg X q m t cs := by
  intro f
  induction f with
  | zero => intro t cs h; exact absurd h (fun z => z)
  | succ f ih =>
    intro t cs h
    obtain ⟨w, ps, h1, h2, h3, h4, h5⟩ := h
    refine ⟨w, ps, h1, h2, h3, h4, fun k hk => ?_⟩
    obtain ⟨u, e1, e2, e3⟩ := h5 k hk
    exact ⟨u, e1, e2, CgR_mono _ _ _ _ (by omega) (ih u _ e3)⟩
/-- term t by its name and its parts -/
theorem Cg_mk {m : PM} {t : Nat} {w : List Int} {ps : List (List Cd)} (h2 : ps.length ≤ 4) (h3 : X (m q t) w) (h4 : m (q + 1) t = (ps.length : Int)) (h5 : ∀ k : Nat, k < ps.length → ∃ u : Nat, m (q + 2) (4 * (t : Int) + k) = (u : Int) ∧ u < t ∧ Cg X q m u (ps.getD k [])) : Cg X q m t ((ps.length, w) :: ps.flatten) := by
  refine ⟨w, ps, rfl, h2, h3, h4, fun k hk => ?_⟩
  obtain ⟨u, e1, e2, e3⟩ := h5 k hk
  exact ⟨u, e1, e2, CgR_mono _ _ _ _ (by omega) e3⟩
theorem CgR_cg {q' : Nat} {m m' : PM} {T : Nat} (k1 : ∀ t : Nat, t < T → m' q' t = m q t ∧ m' (q' + 1) t = m (q + 1) t ∧ ∀ k : Nat, k < 4 → m' (q' + 2) (4 * (t : Int) + k) = m (q + 2) (4 * (t : Int) + k)) : ∀ (f t : Nat) (cs : List Cd), t < T → CgR X q f m t cs → CgR X q' f m' t cs := by
  intro f
  induction f with
  | zero => intro t cs _ h; exact absurd h (fun z => z)
  | succ f ih =>
    intro t cs ht h
    obtain ⟨w, ps, h1, h2, h3, h4, h5⟩ := h
    obtain ⟨a1, a2, a3⟩ := k1 t ht
    refine ⟨w, ps, h1, h2, by rw [a1]; exact h3, by rw [a2]; exact h4, fun k hk => ?_⟩
    obtain ⟨u, e1, e2, e3⟩ := h5 k hk
    exact ⟨u, by rw [a3 k (by omega)]; exact e1, e2, ih u _ (by omega) e3⟩
theorem CgR_fun (hX : XP X) {m : PM} : ∀ (f f' t : Nat) (cs cs' : List Cd), CgR X q f m t cs → CgR X q f' m t cs' → cs = cs' := by
  intro f
  induction f with
  | zero => intro f' t cs cs' h; exact absurd h (fun z => z)
  | succ f ih =>
    intro f' t cs cs' h h'
    cases f' with
    | zero => exact absurd h' (fun z => z)
    | succ f' =>
      obtain ⟨w, ps, h1, h2, h3, h4, h5⟩ := h
      obtain ⟨w', ps', g1, g2, g3, g4, g5⟩ := h'
      have ew : w = w' := hX.2.1 _ _ _ h3 g3
      have el : ps.length = ps'.length := by omega
      have ep : ps = ps' := ext_gD2 el fun k hk => by
        obtain ⟨u, e1, e2, e3⟩ := h5 k hk
        obtain ⟨u', d1, d2, d3⟩ := g5 k (by omega)
        have eu : u = u' := by omega
        rw [← eu] at d3
        exact ih f' u _ _ e3 d3
      rw [h1, g1, ew, ep]
theorem CgR_wf {m : PM} : ∀ (f t : Nat) (cs : List Cd), CgR X q f m t cs → wfS f cs := by
  intro f
  induction f with
  | zero => intro t cs h; exact absurd h (fun z => z)
  | succ f ih =>
    intro t cs h
    obtain ⟨w, ps, h1, h2, h3, h4, h5⟩ := h
    rw [h1]
    refine (wfS_n (by omega)).mpr ⟨ps, rfl, rfl, fun p hp => ?_⟩
    obtain ⟨k, hk, e⟩ := mem_gD2 hp
    obtain ⟨u, _, _, e3⟩ := h5 k hk
    rw [e] at e3
    exact ih u p e3
theorem CgR_gnd {m : PM} : ∀ (f t : Nat) (cs : List Cd), CgR X q f m t cs → gnd cs := by
  intro f
  induction f with
  | zero => intro t cs h; exact absurd h (fun z => z)
  | succ f ih =>
    intro t cs h c hc
    obtain ⟨w, ps, h1, h2, h3, h4, h5⟩ := h
    rw [h1] at hc
    rcases List.mem_cons.mp hc with hc | hc
    · rw [hc]
      show ps.length < 5
      omega
    · obtain ⟨p, hp, hcp⟩ := List.mem_flatten.mp hc
      obtain ⟨k, hk, e⟩ := mem_gD2 hp
      obtain ⟨u, _, _, e3⟩ := h5 k hk
      rw [e] at e3
      exact ih u p e3 c hcp
/-- no term is there twice -/
def CtU (q : Nat) (m : PM) (T : Nat) : Prop := ∀ (t t' : Nat) (x : Int) (ps : List Int), t < T → t' < T → isC q m t x ps → isC q m t' x ps → t = t'
theorem Cg_inj (hX : XP X) {m : PM} {T : Nat} (hU : CtU q m T) : ∀ (f t t' : Nat) (cs : List Cd), t < T → t' < T → CgR X q f m t cs → CgR X q f m t' cs → t = t' := by
  intro f
  induction f with
  | zero => intro t t' cs _ _ h; exact absurd h (fun z => z)
  | succ f ih =>
    intro t t' cs ht ht' h h'
    obtain ⟨w, ps, h1, h2, h3, h4, h5⟩ := h
    obtain ⟨w', ps', g1, g2, g3, g4, g5⟩ := h'
    rw [h1] at g1
    have e0 := List.cons.inj g1
    have el : ps.length = ps'.length := congrArg Prod.fst e0.1
    have ew : w = w' := congrArg Prod.snd e0.1
    have hw : ∀ (qs : List (List Cd)) (r : Nat), (∀ k : Nat, k < qs.length → ∃ u : Nat, m (q + 2) (4 * (r : Int) + k) = (u : Int) ∧ u < r ∧ CgR X q f m u (qs.getD k [])) → ∀ p, p ∈ qs → wfS f p := by
      intro qs r hq p hp
      obtain ⟨k, hk, e⟩ := mem_gD2 hp
      obtain ⟨u, _, _, e3⟩ := hq k hk
      rw [e] at e3
      exact CgR_wf f u p e3
    have ep : ps = ps' := (wfS_list (wfS_pre f) ps ps' [] [] el (hw ps t h5) (hw ps' t' g5) (by rw [List.append_nil, List.append_nil]; exact e0.2)).1
    have ex : m q t = m q t' := hX.2.2.1 _ _ _ h3 (by rw [ew]; exact g3)
    refine hU t t' (m q t) (sl (m (q + 2)) (4 * (t : Int)) ps.length) ht ht' ⟨rfl, by rw [sl_len]; exact h4, by rw [sl_len]⟩ ⟨ex.symm, by rw [sl_len, g4, el], ?_⟩
    rw [sl_len, sl_eq]
    refine ⟨rfl, fun k hk => ?_⟩
    obtain ⟨u, e1, e2, e3⟩ := h5 k hk
    obtain ⟨u', d1, d2, d3⟩ := g5 k (by omega)
    rw [← ep] at d3
    rw [e1, d1, ih u u' _ (by omega) (by omega) e3 d3]
theorem Cg_in (hX : XP X) {m : PM} {T : Nat} (hU : CtU q m T) {t t' : Nat} {cs : List Cd} (ht : t < T) (ht' : t' < T) (h : Cg X q m t cs) (h' : Cg X q m t' cs) : t = t' := by
  have a := CgR_mono _ (t + 1 + (t' + 1)) t cs (by omega) h
  have b := CgR_mono _ (t + 1 + (t' + 1)) t' cs (by omega) h'
  exact Cg_inj hX hU _ t t' cs ht ht' a b
/-- a term's codes are taken apart: name and parts -/
theorem Cg_un {m : PM} {t f : Nat} {ps : List (List Cd)} {w : List Int} (hw : ∀ p, p ∈ ps → wfS f p) (h : Cg X q m t ((ps.length, w) :: ps.flatten)) : X (m q t) w ∧ m (q + 1) t = (ps.length : Int) ∧ ∀ k : Nat, k < ps.length → ∃ u : Nat, m (q + 2) (4 * (t : Int) + k) = (u : Int) ∧ u < t ∧ Cg X q m u (ps.getD k []) := by
  obtain ⟨w', ps', g1, g2, g3, g4, g5⟩ := h
  have e0 := List.cons.inj g1
  have el : ps.length = ps'.length := congrArg Prod.fst e0.1
  have ew : w = w' := congrArg Prod.snd e0.1
  have ep : ps = ps' := (wfS_list (wfS_pre (f + t)) ps ps' [] [] el (fun p hp => wfS_mono _ _ _ (by omega) (hw p hp)) (fun p hp => by
    obtain ⟨k, hk, e⟩ := mem_gD2 hp
    obtain ⟨u, _, _, e3⟩ := g5 k hk
    rw [e] at e3
    exact wfS_mono _ _ _ (by omega) (CgR_wf _ u p e3)) (by rw [List.append_nil, List.append_nil]; exact e0.2)).1
  subst ep
  refine ⟨by rw [ew]; exact g3, g4, fun k hk => ?_⟩
  obtain ⟨u, e1, e2, e3⟩ := g5 k hk
  exact ⟨u, e1, e2, Cg_of _ _ _ e3⟩
/-- all terms of the table mean something, and their lengths are kept -/
def CtL (X : Int → List Int → Prop) (q : Nat) (m : PM) (T : Nat) : Prop := ∀ t : Nat, t < T → ∃ cs, Cg X q m t cs ∧ m (q + 3) t = tlC cs
/-- the whole table -/
def CtT (X : Int → List Int → Prop) (q N S : Nat) (m : PM) (T : Nat) : Prop := CtI q N S m T ∧ CtU q m T ∧ CtL X q m T
theorem isC_fr {m m' : PM} {t : Nat} {x : Int} {ps : List Int} (e0 : m' q t = m q t) (e1 : m' (q + 1) t = m (q + 1) t) (e2 : ∀ j : Nat, j < 4 → m' (q + 2) (4 * (t : Int) + j) = m (q + 2) (4 * (t : Int) + j)) (h4 : m (q + 1) t ≤ 4) (h : isC q m' t x ps) : isC q m t x ps := by
  obtain ⟨h1, h2, h3⟩ := h
  rw [e0] at h1
  rw [e1] at h2
  refine ⟨h1, h2, ?_⟩
  have z : sl (m' (q + 2)) (4 * (t : Int)) ps.length = sl (m (q + 2)) (4 * (t : Int)) ps.length := sl_eq.mpr ⟨rfl, fun j hj => e2 j (by omega)⟩
  rw [← z]
  exact h3
/-- fewer terms, or other cells -/
theorem CtT_cg {N P S : Nat} {m m' : PM} {T T' : Nat} (hT : T ≤ T') (h : CtT X q N S m T') (hI : CtI q N S m' T) (k : ∀ c j, (c = q ∨ c = q + 1 ∨ c = q + 2 ∨ c = q + 3) → m' c j = m c j) : CtT X q N S m' T := by
  refine ⟨hI, fun t t' x ps ht ht' a b => ?_, fun t ht => ?_⟩
  · exact h.2.1 t t' x ps (by omega) (by omega) (isC_fr (k _ _ (by omega)) (k _ _ (by omega)) (fun j _ => k _ _ (by omega)) (h.1.2.2.1 t (by omega)).2.1.2 a) (isC_fr (k _ _ (by omega)) (k _ _ (by omega)) (fun j _ => k _ _ (by omega)) (h.1.2.2.1 t' (by omega)).2.1.2 b)
  · obtain ⟨cs, a, b⟩ := h.2.2 t (by omega)
    exact ⟨cs, CgR_cg (T := t + 1) (fun t ht => ⟨k _ _ (by omega), k _ _ (by omega), fun j _ => k _ _ (by omega)⟩) _ t cs (by omega) a, by rw [k _ _ (by omega)]; exact b⟩
end CT3
