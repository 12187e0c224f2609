/-! ===== texts in their order ===== -/
/-- the first sign in which they differ is the lesser one -/
def ltT (s t : List Int) : Prop := ∃ k : Nat, (∀ j : Nat, j < k → s.getD j 0 = t.getD j 0) ∧ s.getD k 0 < t.getD k 0
theorem ltT_irr (s : List Int) : ¬ ltT s s := fun ⟨k, _, h⟩ => absurd h (Int.lt_irrefl _)
theorem ltT_tr {s t u : List Int} (h : ltT s t) (h' : ltT t u) : ltT s u := by
  obtain ⟨k, h1, h2⟩ := h
  obtain ⟨k', g1, g2⟩ := h'
  by_cases a : k < k'
  · exact ⟨k, fun j hj => (h1 j hj).trans (g1 j (by omega)), by rw [← g1 k a]; exact h2⟩
  · by_cases b : k' < k
    · exact ⟨k', fun j hj => (h1 j (by omega)).trans (g1 j hj), by rw [h1 k' b]; exact g2⟩
    · have e : k = k' := by omega
      rw [← e] at g1 g2
      exact ⟨k, fun j hj => (h1 j hj).trans (g1 j hj), by omega⟩
/-- terms that rise -/
def SrT (L : List (List Cd)) : Prop := L.Pairwise (fun a b => ltT (tx a) (tx b))
theorem SrT_nd {L : List (List Cd)} (h : SrT L) : L.Nodup := List.Pairwise.imp (fun {a b} z e => by rw [e] at z; exact ltT_irr _ z) h
/-- two lists that rise and have the same members are one -/
theorem SrT_uni : ∀ {L M : List (List Cd)}, SrT L → SrT M → (∀ t, t ∈ L ↔ t ∈ M) → L = M := by
  intro L
  induction L with
  | nil =>
    intro M _ _ h
    cases M with
    | nil => rfl
    | cons b M => exact absurd ((h b).mpr List.mem_cons_self) List.not_mem_nil
  | cons a L ih =>
    intro M hL hM h
    cases M with
    | nil => exact absurd ((h a).mp List.mem_cons_self) List.not_mem_nil
    | cons b M =>
      obtain ⟨l1, l2⟩ := List.pairwise_cons.mp hL
      obtain ⟨m1, m2⟩ := List.pairwise_cons.mp hM
      have e : a = b := by
        rcases List.mem_cons.mp ((h a).mp List.mem_cons_self) with e | e
        · exact e
        · rcases List.mem_cons.mp ((h b).mpr List.mem_cons_self) with e' | e'
          · exact e'.symm
          · exact absurd (ltT_tr (m1 a e) (l1 b e')) (ltT_irr _)
      rw [e] at l1 h ⊢
      refine congrArg (List.cons b) (ih l2 m2 (fun t => ⟨fun ht => ?_, fun ht => ?_⟩))
      · rcases List.mem_cons.mp ((h t).mp (List.mem_cons_of_mem _ ht)) with e' | e'
        · rw [e'] at ht; exact absurd (l1 b ht) (ltT_irr _)
        · exact e'
      · rcases List.mem_cons.mp ((h t).mpr (List.mem_cons_of_mem _ ht)) with e' | e'
        · rw [e'] at ht; exact absurd (m1 b ht) (ltT_irr _)
        · exact e'
/-- texts without zeros, by their signs -/
theorem gD_ext {s t : List Int} (hs : ∀ x, x ∈ s → 0 < x) (ht : ∀ x, x ∈ t → 0 < x) (h : ∀ j : Nat, s.getD j 0 = t.getD j 0) : s = t := by
  have pos : ∀ {s : List Int}, (∀ x, x ∈ s → 0 < x) → ∀ j, j < s.length → 0 < s.getD j 0 := fun {s} hs j hj => hs _ (by rw [List.getD_eq_getElem?_getD, List.getElem?_eq_getElem hj]; exact List.getElem_mem hj)
  have hl : s.length = t.length := by
    by_cases a : s.length < t.length
    · have z := h s.length
      rw [gD_out (Nat.le_refl _)] at z
      have := pos ht s.length a
      omega
    · by_cases b : t.length < s.length
      · have z := h t.length
        rw [gD_out (Nat.le_refl t.length)] at z
        have := pos hs t.length b
        omega
      · omega
  refine List.ext_getElem hl fun j h1 h2 => ?_
  have z := h j
  rw [List.getD_eq_getElem?_getD, List.getD_eq_getElem?_getD, List.getElem?_eq_getElem h1, List.getElem?_eq_getElem h2] at z
  exact z
/-- names end where no name's sign is -/
theorem nm_split : ∀ {w w' r r' : List Int}, (∀ s, s ∈ w → ¬ nmV s = 0) → (∀ s, s ∈ w' → ¬ nmV s = 0) → (∀ s q, r = s :: q → nmV s = 0) → (∀ s q, r' = s :: q → nmV s = 0) → w ++ r = w' ++ r' → w = w' ∧ r = r' := by
  intro w
  induction w with
  | nil =>
    intro w' r r' _ h2 h3 _ e
    cases w' with
    | nil => exact ⟨rfl, e⟩
    | cons s w' => exact absurd (h3 s (w' ++ r') e) (h2 s List.mem_cons_self)
  | cons s w ih =>
    intro w' r r' h1 h2 h3 h4 e
    cases w' with
    | nil => exact absurd (h4 s (w ++ r) e.symm) (h1 s List.mem_cons_self)
    | cons s' w' =>
      have e' := List.cons.inj e
      obtain ⟨a, b⟩ := ih (fun x hx => h1 x (List.mem_cons_of_mem _ hx)) (fun x hx => h2 x (List.mem_cons_of_mem _ hx)) h3 h4 e'.2
      exact ⟨by rw [e'.1, a], b⟩
/-- a text tells its term -/
theorem tx_pre : ∀ (f : Nat) (p p' : List Cd) (r r' : List Int), wfS f p → gnd p → NeC p → wfS f p' → gnd p' → NeC p' → (∀ s q, r = s :: q → nmV s = 0) → (∀ s q, r' = s :: q → nmV s = 0) → tx p ++ r = tx p' ++ r' → p = p' ∧ r = r' := by
  intro f
  induction f with
  | zero => intro p p' r r' h; exact absurd h (fun z => z)
  | succ f ih =>
    intro p p' r r' hf hg hn hf' hg' hn' hr hr' e
    cases p with
    | nil => exact absurd hf (fun z => z)
    | cons c rest =>
      cases p' with
      | nil => exact absurd hf' (fun z => z)
      | cons c' rest' =>
        obtain ⟨n, w⟩ := c
        obtain ⟨n', w'⟩ := c'
        have n5 : n < 5 := hg (n, w) List.mem_cons_self
        have n5' : n' < 5 := hg' (n', w') List.mem_cons_self
        obtain ⟨ps, h1, h2, h3⟩ := (wfS_n (by omega)).mp hf
        obtain ⟨ps', h1', h2', h3'⟩ := (wfS_n (by omega)).mp hf'
        have hw : 1 ≤ w.length ∧ ∀ s, s ∈ w → ¬ nmV s = 0 := hn (n, w) List.mem_cons_self n5
        have hw' : 1 ≤ w'.length ∧ ∀ s, s ∈ w' → ¬ nmV s = 0 := hn' (n', w') List.mem_cons_self n5'
        have sub : ∀ q, q ∈ ps → ∀ c, c ∈ q → c ∈ (n, w) :: rest := fun q hq c hc => List.mem_cons_of_mem _ (by rw [← h2]; exact List.mem_flatten.mpr ⟨q, hq, hc⟩)
        have sub' : ∀ q, q ∈ ps' → ∀ c, c ∈ q → c ∈ (n', w') :: rest' := fun q hq c hc => List.mem_cons_of_mem _ (by rw [← h2']; exact List.mem_flatten.mpr ⟨q, hq, hc⟩)
        have hgp : ∀ q, q ∈ ps → wfS f q ∧ gnd q := fun q hq => ⟨h3 q hq, fun c hc => hg c (sub q hq c hc)⟩
        have hgp' : ∀ q, q ∈ ps' → wfS f q ∧ gnd q := fun q hq => ⟨h3' q hq, fun c hc => hg' c (sub' q hq c hc)⟩
        have t0 : n = 0 → rest = [] ∧ tx ((n, w) :: rest) = w := fun e0 => by
          have ep : ps = [] := List.eq_nil_of_length_eq_zero (by omega)
          have er : rest = [] := by rw [← h2, ep]; rfl
          exact ⟨er, by rw [er, e0, tx_0]⟩
        have t0' : n' = 0 → rest' = [] ∧ tx ((n', w') :: rest') = w' := fun e0 => by
          have ep : ps' = [] := List.eq_nil_of_length_eq_zero (by omega)
          have er : rest' = [] := by rw [← h2', ep]; rfl
          exact ⟨er, by rw [er, e0, tx_0]⟩
        have t1 : ¬ n = 0 → tx ((n, w) :: rest) = 40 :: (w ++ txP ps ++ [41]) := fun e0 => by rw [← h1, ← h2]; exact tx_n (by omega) hgp
        have t1' : ¬ n' = 0 → tx ((n', w') :: rest') = 40 :: (w' ++ txP ps' ++ [41]) := fun e0 => by rw [← h1', ← h2']; exact tx_n (by omega) hgp'
        have n40 : nmV 40 = 0 := nmV_n (by decide)
        by_cases e0 : n = 0
        · rw [(t0 e0).2] at e
          by_cases e0' : n' = 0
          · rw [(t0' e0').2] at e
            obtain ⟨a, b⟩ := nm_split hw.2 hw'.2 hr hr' e
            rw [(t0 e0).1, (t0' e0').1, e0, e0', a]
            exact ⟨rfl, b⟩
          · rw [t1' e0'] at e
            cases w with
            | nil => exact absurd hw.1 (by decide)
            | cons s w =>
              have := (List.cons.inj e).1
              rw [this] at hw
              exact absurd n40 (hw.2 40 List.mem_cons_self)
        · rw [t1 e0] at e
          by_cases e0' : n' = 0
          · rw [(t0' e0').2] at e
            cases w' with
            | nil => exact absurd hw'.1 (by decide)
            | cons s w' =>
              have := (List.cons.inj e).1
              rw [← this] at hw'
              exact absurd n40 (hw'.2 40 List.mem_cons_self)
          · rw [t1' e0'] at e
            have e1 : (w ++ txP ps ++ [41]) ++ r = (w' ++ txP ps' ++ [41]) ++ r' := (List.cons.inj e).2
            simp only [List.append_assoc] at e1
            have hd : ∀ (qs : List (List Cd)) (y : List Int), ∀ s q, txP qs ++ ([41] ++ y) = s :: q → nmV s = 0 := fun qs y s q h => by
              cases qs with
              | nil => rw [← (List.cons.inj (show (41 : Int) :: y = s :: q from h)).1]; exact nmV_n (by decide)
              | cons p qs => rw [txP_c] at h; rw [← (List.cons.inj h).1]; exact nmV_n (by decide)
            obtain ⟨a, b⟩ := nm_split hw.2 hw'.2 (hd ps r) (hd ps' r') e1
            have parts : ∀ (qs qs' : List (List Cd)), (∀ q, q ∈ qs → q ∈ ps) → (∀ q, q ∈ qs' → q ∈ ps') → txP qs ++ ([41] ++ r) = txP qs' ++ ([41] ++ r') → qs = qs' ∧ r = r' := by
              intro qs
              induction qs with
              | nil =>
                intro qs' _ _ h
                cases qs' with
                | nil => exact ⟨rfl, (List.cons.inj h).2⟩
                | cons q qs' =>
                  rw [txP_c] at h
                  exact absurd (List.cons.inj (show (41 : Int) :: r = 32 :: _ from h)).1 (by decide)
              | cons q qs ihq =>
                intro qs' s1 s2 h
                cases qs' with
                | nil =>
                  rw [txP_c] at h
                  exact absurd (List.cons.inj (show (32 : Int) :: _ = 41 :: r' from h)).1 (by decide)
                | cons q' qs' =>
                  rw [txP_c, txP_c] at h
                  have h := (List.cons.inj (show (32 : Int) :: (tx q ++ txP qs ++ ([41] ++ r)) = 32 :: (tx q' ++ txP qs' ++ ([41] ++ r')) from h)).2
                  rw [List.append_assoc, List.append_assoc] at h
                  have m1 := s1 q List.mem_cons_self
                  have m2 := s2 q' List.mem_cons_self
                  obtain ⟨x, y⟩ := ih q q' _ _ (h3 q m1) (hgp q m1).2 (fun c hc => hn c (sub q m1 c hc)) (h3' q' m2) (hgp' q' m2).2 (fun c hc => hn' c (sub' q' m2 c hc)) (hd qs r) (hd qs' r') h
                  obtain ⟨x', y'⟩ := ihq qs' (fun z hz => s1 z (List.mem_cons_of_mem _ hz)) (fun z hz => s2 z (List.mem_cons_of_mem _ hz)) y
                  exact ⟨by rw [x, x'], y'⟩
            obtain ⟨x, y⟩ := parts ps ps' (fun q hq => hq) (fun q hq => hq) b
            rw [← h1, ← h1', ← h2, ← h2', a, x]
            exact ⟨rfl, y⟩
theorem tx_inj {m m' : PM} {p p' : List Cd} (h : GdT m p) (h' : GdT m' p') (e : tx p = tx p') : p = p' := by
  obtain ⟨⟨f, hf⟩, h2, h3, _⟩ := h
  obtain ⟨⟨f', hf'⟩, h2', h3', _⟩ := h'
  exact (tx_pre (f + f') p p' [] [] (wfS_mono f _ _ (by omega) hf) h2 h3 (wfS_mono f' _ _ (by omega) hf') h2' h3' (fun s q z => nomatch z) (fun s q z => nomatch z) (by rw [e])).1
/-- no deeper than it has codes -/
theorem wfS_len : ∀ (f : Nat) (cs : List Cd), wfS f cs → wfS cs.length cs := by
  intro f
  induction f with
  | zero => intro cs h; exact absurd h (fun z => z)
  | succ f ih =>
    intro cs h
    cases cs with
    | nil => exact absurd h (fun z => z)
    | cons c rest =>
      obtain ⟨n, w⟩ := c
      rw [List.length_cons]
      by_cases c5 : 5 ≤ n
      · exact (wfS_v c5).mpr ((wfS_v c5).mp h)
      · obtain ⟨ps, h1, h2, h3⟩ := (wfS_n c5).mp h
        refine (wfS_n c5).mpr ⟨ps, h1, h2, fun p hp => ?_⟩
        refine wfS_mono p.length _ _ ?_ (ih p (h3 p hp))
        rw [← h2]
        exact (List.sublist_flatten_of_mem hp).length_le
