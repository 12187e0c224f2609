/-! ===== what every sheet that was read is like ===== -/
/-- a term as codes -/
def wfT : Nat → List Cd → Prop
  | 0, _ => False
  | f + 1, cs => match cs with
    | [] => False
    | (a, w) :: rest => if 5 ≤ a then rest = [] ∧ w = [] ∧ a < 13 else ∃ ps : List (List Cd), ps.length = a ∧ ps.flatten = rest ∧ ∀ p, p ∈ ps → wfT f p
def OkA (a : Atm) : Prop := a.2.length ≤ 4 ∧ ∀ p, p ∈ a.2 → wfT 11 p
def OkC (c : Nat × Atm) : Prop := OkA c.2 ∧ (c.1 = 1 ∨ c.1 = 2 ∨ (c.1 = 3 ∧ c.2.1 = [] ∧ c.2.2.length = 2))
def OkR (ru : Rul) : Prop := OkA ru.1 ∧ ru.2.length ≤ 8 ∧ ∀ c, c ∈ ru.2 → OkC c
def OkS (rs : List Rul) : Prop := ∀ ru, ru ∈ rs → OkR ru
theorem wfT_mono : ∀ (f f' : Nat) (cs : List Cd), f ≤ f' → wfT f cs → wfT f' cs := by
  intro f
  induction f with
  | zero => intro f' cs _ h; exact absurd h (fun z => z)
  | succ f ih =>
    intro f' cs hf h
    obtain ⟨f', rfl⟩ : ∃ g, f' = g + 1 := ⟨f' - 1, by omega⟩
    cases cs with
    | nil => exact h
    | cons c rest =>
      obtain ⟨a, w⟩ := c
      unfold wfT at h ⊢
      simp only at h ⊢
      split
      · rename_i q
        rw [if_pos q] at h
        exact h
      · rename_i q
        rw [if_neg q] at h
        obtain ⟨ps, e1, e2, e3⟩ := h
        exact ⟨ps, e1, e2, fun p hp => ih f' p (by omega) (e3 p hp)⟩
theorem wfT_ok : ∀ (f : Nat) (cs : List Cd), wfT f cs → ∀ c, c ∈ cs → 5 ≤ c.1 → c.2 = [] ∧ c.1 < 13 := by
  intro f
  induction f with
  | zero => intro cs h; exact absurd h (fun z => z)
  | succ f ih =>
    intro cs h c hc h5
    cases cs with
    | nil => exact absurd h (fun z => z)
    | cons d rest =>
      obtain ⟨a, w⟩ := d
      unfold wfT at h
      simp only at h
      by_cases q : 5 ≤ a
      · rw [if_pos q] at h
        obtain ⟨h1, h2, h3⟩ := h
        rw [h1] at hc
        have e : c = (a, w) := by simpa using hc
        rw [e]
        exact ⟨h2, h3⟩
      · rw [if_neg q] at h
        obtain ⟨ps, e1, e2, e3⟩ := h
        rcases List.mem_cons.mp hc with hc | hc
        · rw [hc] at h5
          exact absurd h5 q
        · rw [← e2] at hc
          obtain ⟨p, hp, hcp⟩ := List.mem_flatten.mp hc
          exact ih p (e3 p hp) c hcp h5
section OKP
variable {t : Int → Int} {n : Int}
theorem pT0_wf {f i i' : Nat} {vs vs' : List (List Int)} {e : Rd (List Cd)} {cs : List Cd} (hv : vs.length ≤ 8) (h : pT0 t n i vs e = .inr (cs, i', vs')) : e = .inr (cs, i', vs') ∨ (wfT (f + 1) cs ∧ vs'.length ≤ 8) := by
  have hvar : ∀ v : Nat, v < 8 → wfT (f + 1) [(5 + v, [])] := by
    intro v hv
    unfold wfT
    simp only
    rw [if_pos (by omega)]
    exact ⟨trivial, trivial, by omega⟩
  unfold pT0 at h
  split at h
  · split at h
    · cases h; exact Or.inr ⟨hvar _ (by omega), hv⟩
    · split at h
      · cases h
      · cases h; exact Or.inr ⟨hvar _ (by omega), by simp; omega⟩
  · split at h
    · cases h
      refine Or.inr ⟨?_, hv⟩
      unfold wfT
      simp only
      rw [if_neg (by omega)]
      exact ⟨[], rfl, rfl, fun p hp => absurd hp List.not_mem_nil⟩
    · split at h
      · exact Or.inl h
      · cases h
theorem pPs_wf {K : Nat → Int} {f : Nat → List (List Int) → Rd (List Cd)} {mn fu : Nat} (hf : ∀ i vs c i' vs', vs.length ≤ 8 → f i vs = .inr (c, i', vs') → wfT fu c ∧ vs'.length ≤ 8) : ∀ (r i : Nat) (vs : List (List Int)) (acc ps : List (List Cd)) (i' : Nat) (vs' : List (List Int)), vs.length ≤ 8 → (∀ p, p ∈ acc → wfT fu p) → pPs K f mn r i vs acc = .inr (ps, i', vs') → (∀ p, p ∈ ps → wfT fu p) ∧ vs'.length ≤ 8 ∧ ps.length ≤ acc.length + r ∧ mn ≤ ps.length := by
  intro r
  induction r with
  | zero =>
    intro i vs acc ps i' vs' hv ha h
    unfold pPs at h
    split at h
    · rename_i q
      cases h; exact ⟨ha, hv, Nat.le_refl _, q.2⟩
    · cases h
  | succ r ih =>
    intro i vs acc ps i' vs' hv ha h
    unfold pPs at h
    split at h
    · rename_i q
      cases h; exact ⟨ha, hv, Nat.le_add_right _ _, q.2⟩
    · cases q : f i vs with
      | inl x => rw [q] at h; cases h
      | inr y =>
        obtain ⟨c, j, ws⟩ := y
        rw [q] at h
        have h2 := hf _ _ _ _ _ hv q
        have el : (acc ++ [c]).length = acc.length + 1 := by simp
        have h1 := ih j ws (acc ++ [c]) ps i' vs' h2.2 (fun p hp => by
          rcases List.mem_append.mp hp with hp | hp
          · exact ha p hp
          · rw [List.mem_singleton.mp hp]; exact h2.1) h
        exact ⟨h1.1, h1.2.1, by omega, h1.2.2.2⟩
theorem pT_wf : ∀ (dl i : Nat) (vs : List (List Int)) (cs : List Cd) (i' : Nat) (vs' : List (List Int)), vs.length ≤ 8 → pT t n dl i vs = .inr (cs, i', vs') → wfT (dl + 1) cs ∧ vs'.length ≤ 8 := by
  intro dl
  induction dl with
  | zero =>
    intro i vs cs i' vs' hv h
    rcases pT0_wf (f := 0) hv (show pT0 t n i vs (.inl i) = _ from h) with q | q
    · cases q
    · exact q
  | succ dl ih =>
    intro i vs cs i' vs' hv h
    rcases pT0_wf (f := dl + 1) hv (show pT0 t n i vs _ = _ from h) with q | q
    · split at q
      · cases z : pPs (tK t n) (pT t n dl) 1 4 (i + 2) vs [] with
        | inl x => rw [z] at q; cases q
        | inr y =>
          obtain ⟨ps, j, ws⟩ := y
          rw [z] at q
          cases q
          have h1 := pPs_wf ih 4 (i + 2) vs [] ps i' vs' hv (fun p hp => absurd hp List.not_mem_nil) z
          have hl : ps.length ≤ 4 := by have := h1.2.2.1; simpa using this
          refine ⟨?_, h1.2.1⟩
          unfold wfT
          simp only
          rw [if_neg (by omega)]
          exact ⟨ps, rfl, rfl, h1.1⟩
      · cases q
    · exact q
theorem pPa_ok {dl i i' mn mx : Nat} {vs vs' : List (List Int)} {w : List Int} {a : Atm} (hdl : dl ≤ 10) (hx : mx ≤ 4) (hv : vs.length ≤ 8) (h : pPa t n dl i vs w mn mx = .inr (a, i', vs')) : OkA a ∧ vs'.length ≤ 8 ∧ a.1 = w ∧ a.2.length ≤ mx ∧ mn ≤ a.2.length := by
  unfold pPa at h
  cases z : pPs (tK t n) (pT t n dl) mn mx i vs [] with
  | inl x => rw [z] at h; cases h
  | inr y =>
    obtain ⟨ps, j, ws⟩ := y
    rw [z] at h
    cases h
    have h1 := pPs_wf (pT_wf dl) mx i vs [] ps i' vs' hv (fun p hp => absurd hp List.not_mem_nil) z
    have hl : ps.length ≤ mx := by have := h1.2.2.1; simpa using this
    exact ⟨⟨by show ps.length ≤ 4; omega, fun p hp => wfT_mono _ _ _ (by omega) (h1.1 p hp)⟩, h1.2.1, rfl, hl, h1.2.2.2⟩
theorem pAt_ok {dl i i' : Nat} {vs vs' : List (List Int)} {a : Atm} (hdl : dl ≤ 10) (hv : vs.length ≤ 8) (h : pAt t n dl i vs = .inr (a, i', vs')) : OkA a ∧ vs'.length ≤ 8 := by
  unfold pAt at h
  split at h
  · cases h; exact ⟨⟨Nat.zero_le _, fun p hp => absurd hp List.not_mem_nil⟩, hv⟩
  · split at h
    · split at h
      · have := pPa_ok hdl (by decide) hv h
        exact ⟨this.1, this.2.1⟩
      · cases h
    · cases h
theorem pCo_ok {i i' : Nat} {vs vs' : List (List Int)} {c : Nat × Atm} (hv : vs.length ≤ 8) (h : pCo t n i vs = .inr (c, i', vs')) : OkC c ∧ vs'.length ≤ 8 := by
  unfold pCo at h
  split at h
  · cases z : pAt t n 7 (i + 2) vs with
    | inl x => rw [z] at h; cases h
    | inr y =>
      obtain ⟨a, j, ws⟩ := y
      rw [z] at h
      simp only at h
      have := pAt_ok (by decide) hv z
      split at h
      · cases h; exact ⟨⟨this.1, Or.inr (Or.inl rfl)⟩, this.2⟩
      · cases h
  · split at h
    · cases z : pPa t n 8 (i + 2) vs [] 2 2 with
      | inl x => rw [z] at h; cases h
      | inr y =>
        obtain ⟨a, j, ws⟩ := y
        rw [z] at h
        cases h
        have := pPa_ok (by decide) (by decide) hv z
        exact ⟨⟨this.1, Or.inr (Or.inr ⟨rfl, this.2.2.1, by have h1 := this.2.2.2.1; have h2 := this.2.2.2.2; show a.2.length = 2; omega⟩)⟩, this.2.1⟩
    · cases z : pAt t n 8 i vs with
      | inl x => rw [z] at h; cases h
      | inr y =>
        obtain ⟨a, j, ws⟩ := y
        rw [z] at h
        cases h
        have := pAt_ok (by decide) hv z
        exact ⟨⟨this.1, Or.inl rfl⟩, this.2⟩
theorem pCs_ok : ∀ (r i : Nat) (vs : List (List Int)) (acc cs : List (Nat × Atm)) (i' : Nat) (vs' : List (List Int)), vs.length ≤ 8 → (∀ c, c ∈ acc → OkC c) → pCs t n r i vs acc = .inr (cs, i', vs') → (∀ c, c ∈ cs → OkC c) ∧ cs.length ≤ acc.length + r := by
  intro r
  induction r with
  | zero =>
    intro i vs acc cs i' vs' hv ha h
    unfold pCs at h
    split at h
    · cases h; exact ⟨ha, Nat.le_refl _⟩
    · cases h
  | succ r ih =>
    intro i vs acc cs i' vs' hv ha h
    unfold pCs at h
    split at h
    · cases h; exact ⟨ha, Nat.le_add_right _ _⟩
    · cases q : pCo t n i vs with
      | inl x => rw [q] at h; cases h
      | inr y =>
        obtain ⟨c, j, ws⟩ := y
        rw [q] at h
        have h2 := pCo_ok hv q
        have el : (acc ++ [c]).length = acc.length + 1 := by simp
        have h1 := ih j ws (acc ++ [c]) cs i' vs' h2.2 (fun p hp => by
          rcases List.mem_append.mp hp with hp | hp
          · exact ha p hp
          · rw [List.mem_singleton.mp hp]; exact h2.1) h
        exact ⟨h1.1, by omega⟩
theorem pRu_ok {i i' : Nat} {ru : Rul} (h : pRu t n i = .inr (ru, i')) : OkR ru := by
  unfold pRu at h
  split at h
  · cases z : pAt t n 8 (i + 2) [] with
    | inl x => rw [z] at h; cases h
    | inr y =>
      obtain ⟨a, j, ws⟩ := y
      rw [z] at h
      simp only at h
      have h1 := pAt_ok (by decide) (Nat.zero_le _) z
      cases w : pCs t n 8 j ws [] with
      | inl x => rw [w] at h; cases h
      | inr y =>
        obtain ⟨cs, j2, ws2⟩ := y
        rw [w] at h
        cases h
        have h2 := pCs_ok 8 j ws [] cs i' ws2 h1.2 (fun p hp => absurd hp List.not_mem_nil) w
        exact ⟨h1.1, by have := h2.2; simpa using this, h2.1⟩
  · cases z : pAt t n 9 i [] with
    | inl x => rw [z] at h; cases h
    | inr y =>
      obtain ⟨a, j, ws⟩ := y
      rw [z] at h
      cases h
      exact ⟨(pAt_ok (by decide) (Nat.zero_le _) z).1, Nat.zero_le _, fun p hp => absurd hp List.not_mem_nil⟩
/-- a sheet that was read -/
theorem pSh_ok : ∀ (r i : Nat) (acc rs : List Rul), OkS acc → pSh t n r i acc = .inr rs → OkS rs := by
  intro r
  induction r with
  | zero =>
    intro i acc rs ha h
    unfold pSh at h
    split at h
    · cases h; exact ha
    · cases h
  | succ r ih =>
    intro i acc rs ha h
    unfold pSh at h
    split at h
    · cases h; exact ha
    · cases q : pRu t n i with
      | inl x => rw [q] at h; cases h
      | inr y =>
        obtain ⟨ru, j⟩ := y
        rw [q] at h
        refine ih j (acc ++ [ru]) rs (fun p hp => ?_) h
        rcases List.mem_append.mp hp with hp | hp
        · exact ha p hp
        · rw [List.mem_singleton.mp hp]; exact pRu_ok q
theorem OkS_at {rs : List Rul} (h : OkS rs) {r : Nat} (hr : r < rs.length) : OkR (rs.getD r ruD) := by
  refine h _ ?_
  rw [List.getD_eq_getElem?_getD, List.getElem?_eq_getElem hr]
  exact List.getElem_mem hr
end OKP
