/-! ===== the order of texts, term against term ===== -/
/-- a term's text is one: names, no variables -/
def GdC (cs : List Cd) : Prop := (∃ f, wfS f cs) ∧ gnd cs ∧ NeC cs
/-- behind a term stands no name's sign -/
def Rst (r : List Int) : Prop := r.getD 0 0 < 48
/-- a name comes first, whatever follows -/
def nlt (w w' : List Int) : Prop := ∃ k : Nat, k ≤ w.length ∧ k < w'.length ∧ (∀ j, j < k → w.getD j 0 = w'.getD j 0) ∧ (k = w.length ∨ (k < w.length ∧ w.getD k 0 < w'.getD k 0))
/-- a term comes first, whatever follows -/
def TLt (p p' : List Cd) : Prop := ∀ r r', Rst r → Rst r' → ltT (tx p ++ r) (tx p' ++ r')
/-- what comparing tells -/
def Cmp (p p' : List Cd) (v : Int) : Prop := iR v ∧ ((v < 0 ∧ TLt p p') ∨ (v = 0 ∧ p = p') ∨ (0 < v ∧ TLt p' p))
theorem nm48 {s : Int} (h : ¬ nmV s = 0) : 48 ≤ s ∧ s ≤ 122 := by
  unfold nmV at h
  split at h
  · omega
  · split at h
    · omega
    · split at h
      · omega
      · exact absurd rfl h
theorem gDi_l {s r : List Int} {i : Nat} (h : i < s.length) : (s ++ r).getD i 0 = s.getD i 0 := by
  rw [List.getD_eq_getElem?_getD, List.getD_eq_getElem?_getD, List.getElem?_append_left h]
theorem gDi_r {s r : List Int} (i : Nat) : (s ++ r).getD (s.length + i) 0 = r.getD i 0 := by
  rw [List.getD_eq_getElem?_getD, List.getD_eq_getElem?_getD, List.getElem?_append_right (by omega), show s.length + i - s.length = i by omega]
theorem ltT_pre (P : List Int) {s t : List Int} (h : ltT s t) : ltT (P ++ s) (P ++ t) := by
  obtain ⟨k, h1, h2⟩ := h
  refine ⟨P.length + k, fun j hj => ?_, by rw [gDi_r, gDi_r]; exact h2⟩
  by_cases y : j < P.length
  · rw [gDi_l y, gDi_l y]
  · obtain ⟨i, rfl⟩ : ∃ i, j = P.length + i := ⟨j - P.length, by omega⟩
    rw [gDi_r, gDi_r]
    exact h1 i (by omega)
theorem ltT_hd {a b : Int} {s t : List Int} (h : a < b) : ltT (a :: s) (b :: t) := ⟨0, fun j hj => absurd hj (Nat.not_lt_zero j), h⟩
theorem gDi_in {w : List Int} {i : Nat} (h : i < w.length) : w.getD i 0 ∈ w := by
  rw [List.getD_eq_getElem?_getD, List.getElem?_eq_getElem h]
  exact List.getElem_mem h
theorem nlt_lt {w w' r r' : List Int} (hw' : ∀ s, s ∈ w' → ¬ nmV s = 0) (h : nlt w w') (hr : Rst r) : ltT (w ++ r) (w' ++ r') := by
  obtain ⟨k, k1, k2, k3, k4⟩ := h
  refine ⟨k, fun j hj => by rw [gDi_l (by omega), gDi_l (by omega)]; exact k3 j hj, ?_⟩
  rw [gDi_l k2]
  rcases k4 with e | ⟨e1, e2⟩
  · have z := gDi_r (s := w) (r := r) 0
    rw [Nat.add_zero, ← e] at z
    rw [z]
    have := (nm48 (hw' _ (gDi_in k2))).1
    have hr' : r.getD 0 0 < 48 := hr
    omega
  · rw [gDi_l e1]
    exact e2
theorem GdC_u {a : Nat} {w : List Int} {rest : List Cd} (h : GdC ((a, w) :: rest)) : (1 ≤ w.length ∧ ∀ s, s ∈ w → ¬ nmV s = 0) ∧ ∃ ps : List (List Cd), ps.length = a ∧ a ≤ 4 ∧ ps.flatten = rest ∧ ∀ p, p ∈ ps → GdC p := by
  obtain ⟨⟨f, hf⟩, hg, hn⟩ := h
  have a5 : a < 5 := hg (a, w) List.mem_cons_self
  refine ⟨hn (a, w) List.mem_cons_self a5, ?_⟩
  cases f with
  | zero => exact absurd hf (fun z => z)
  | succ f =>
    obtain ⟨ps, h1, h2, h3⟩ := (wfS_n (by omega)).mp hf
    exact ⟨ps, h1, by omega, h2, fun p hp => ⟨⟨f, h3 p hp⟩, fun c hc => hg c (List.mem_cons_of_mem _ (by rw [← h2]; exact List.mem_flatten.mpr ⟨p, hp, hc⟩)), fun c hc => hn c (List.mem_cons_of_mem _ (by rw [← h2]; exact List.mem_flatten.mpr ⟨p, hp, hc⟩))⟩⟩
/-- good parts, one depth for all -/
theorem GdC_f : ∀ {ps : List (List Cd)}, (∀ p, p ∈ ps → GdC p) → ∃ f, ∀ p, p ∈ ps → wfS f p ∧ gnd p := by
  intro ps
  induction ps with
  | nil => intro _; exact ⟨0, fun p hp => absurd hp List.not_mem_nil⟩
  | cons p ps ih =>
    intro h
    obtain ⟨f, hf⟩ := ih (fun q hq => h q (List.mem_cons_of_mem _ hq))
    obtain ⟨⟨g, hg⟩, h2, _⟩ := h p List.mem_cons_self
    refine ⟨f + g, fun q hq => ?_⟩
    rcases List.mem_cons.mp hq with e | hq
    · rw [e]; exact ⟨wfS_mono _ _ _ (by omega) hg, h2⟩
    · exact ⟨wfS_mono _ _ _ (by omega) (hf q hq).1, (hf q hq).2⟩
theorem tx_N {ps : List (List Cd)} {w : List Int} (h1 : 1 ≤ ps.length) (h : ∀ p, p ∈ ps → GdC p) : tx ((ps.length, w) :: ps.flatten) = 40 :: (w ++ txP ps ++ [41]) := by
  obtain ⟨f, hf⟩ := GdC_f h
  exact tx_n h1 hf
theorem txP_a (ps qs : List (List Cd)) : txP (ps ++ qs) = txP ps ++ txP qs := by
  unfold txP
  rw [List.map_append, List.flatten_append]
theorem txP_h {ps : List (List Cd)} (h : 1 ≤ ps.length) (r : List Int) : Rst (txP ps ++ r) := by
  match ps, h with
  | p :: ps, _ =>
    rw [txP_c]
    show (32 : Int) < 48
    decide
/-- a name with parts comes ahead of one without -/
theorem cmp_10 {w w' : List Int} {ps : List (List Cd)} (hw : 1 ≤ w.length ∧ ∀ s, s ∈ w → ¬ nmV s = 0) (h1 : 1 ≤ ps.length) (hp : ∀ p, p ∈ ps → GdC p) : TLt ((ps.length, w') :: ps.flatten) [(0, w)] := fun r r' _ _ => by
  rw [tx_N h1 hp, tx_0]
  match w, hw with
  | s :: w, hw =>
    refine ltT_hd ?_
    have := (nm48 (hw.2 s List.mem_cons_self)).1
    omega
theorem cmp_00 {w w' : List Int} (hw' : ∀ s, s ∈ w' → ¬ nmV s = 0) (h : nlt w w') : TLt [(0, w)] [(0, w')] := fun r r' hr _ => by
  rw [tx_0, tx_0]
  exact nlt_lt hw' h hr
theorem cmp_11 {w w' : List Int} {ps ps' : List (List Cd)} (hw' : ∀ s, s ∈ w' → ¬ nmV s = 0) (h1 : 1 ≤ ps.length) (hp : ∀ p, p ∈ ps → GdC p) (h1' : 1 ≤ ps'.length) (hp' : ∀ p, p ∈ ps' → GdC p) (h : nlt w w') : TLt ((ps.length, w) :: ps.flatten) ((ps'.length, w') :: ps'.flatten) := fun r r' hr _ => by
  rw [tx_N h1 hp, tx_N h1' hp', List.cons_append, List.cons_append, List.append_assoc, List.append_assoc, List.append_assoc, List.append_assoc]
  exact ltT_pre [40] (nlt_lt hw' h (txP_h h1 _))
/-- more parts come first -/
theorem cmp_ar {w : List Int} {ps qs : List (List Cd)} (h1 : 1 ≤ ps.length) (hp : ∀ p, p ∈ ps ++ qs → GdC p) (hq : 1 ≤ qs.length) : TLt (((ps ++ qs).length, w) :: (ps ++ qs).flatten) ((ps.length, w) :: ps.flatten) := fun r r' _ _ => by
  rw [tx_N (by rw [List.length_append]; omega) hp, tx_N h1 (fun p h => hp p (List.mem_append_left _ h)), txP_a]
  match qs, hq with
  | p :: qs, _ =>
    rw [txP_c]
    simp only [List.cons_append, List.append_assoc]
    have z : ltT (32 :: (tx p ++ (txP qs ++ ([41] ++ r)))) (41 :: r') := ltT_hd (by decide)
    exact ltT_pre [40] (ltT_pre w (ltT_pre (txP ps) z))
/-- the first parts that are unlike tell it -/
theorem cmp_pt {w : List Int} {L ps ps' : List (List Cd)} {p p' : List Cd} (hp : ∀ x, x ∈ L ++ p :: ps → GdC x) (hp' : ∀ x, x ∈ L ++ p' :: ps' → GdC x) (h : TLt p p') : TLt (((L ++ p :: ps).length, w) :: (L ++ p :: ps).flatten) (((L ++ p' :: ps').length, w) :: (L ++ p' :: ps').flatten) := fun r r' _ _ => by
  rw [tx_N (by rw [List.length_append, List.length_cons]; omega) hp, tx_N (by rw [List.length_append, List.length_cons]; omega) hp', txP_a, txP_a, txP_c, txP_c]
  simp only [List.cons_append, List.append_assoc]
  have rs : ∀ (ps : List (List Cd)) (r : List Int), Rst (txP ps ++ ([41] ++ r)) := fun ps r => by
    cases ps with
    | nil => show (41 : Int) < 48; decide
    | cons p ps => exact txP_h (by rw [List.length_cons]; omega) _
  exact ltT_pre [40] (ltT_pre w (ltT_pre (txP L) (ltT_pre [32] (h _ _ (rs ps r) (rs ps' r')))))
theorem TLt_t {p p' : List Cd} (h : TLt p p') : ltT (tx p) (tx p') := by
  have z := h [] [] (by show (0 : Int) < 48; decide) (by show (0 : Int) < 48; decide)
  rw [List.append_nil, List.append_nil] at z
  exact z
theorem split_at {L : List (List Cd)} {k : Nat} (h : k < L.length) : L = L.take k ++ L.getD k [] :: L.drop (k + 1) := by
  have e : L.drop k = L.getD k [] :: L.drop (k + 1) := by
    rw [List.drop_eq_getElem_cons h, List.getD_eq_getElem?_getD, List.getElem?_eq_getElem h]
    rfl
  rw [← e, List.take_append_drop]
theorem take_eqL {L M : List (List Cd)} {k : Nat} (h1 : k ≤ L.length) (h2 : k ≤ M.length) (h : ∀ j, j < k → L.getD j [] = M.getD j []) : L.take k = M.take k := by
  refine List.ext_getElem (by rw [List.length_take, List.length_take]; omega) (fun j j1 j2 => ?_)
  rw [List.length_take] at j1 j2
  have z := h j (by omega)
  rw [List.getD_eq_getElem?_getD, List.getD_eq_getElem?_getD, List.getElem?_eq_getElem (by omega), List.getElem?_eq_getElem (by omega)] at z
  rw [List.getElem_take, List.getElem_take]
  exact z
