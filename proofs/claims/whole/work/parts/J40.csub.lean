/-! ===== parts of parts: how many names with parts ===== -/
/-- p is a part of c -/
def Pt1 (p c : List Cd) : Prop := ∃ (w : List Int) (ps : List (List Cd)), c = (ps.length, w) :: ps.flatten ∧ (∀ x, x ∈ ps → GdC x) ∧ p ∈ ps
def SubF : Nat → List Cd → List Cd → Prop
  | 0, p, c => p = c
  | f + 1, p, c => ∃ q, SubF f q c ∧ Pt1 p q
/-- p is c, or a part of it, or of a part -/
def Sub (p c : List Cd) : Prop := ∃ f, SubF f p c
theorem Sub_r (c : List Cd) : Sub c c := ⟨0, rfl⟩
theorem Sub_p {p q c : List Cd} (h : Sub q c) (h' : Pt1 p q) : Sub p c := by
  obtain ⟨f, hf⟩ := h
  exact ⟨f + 1, q, hf, h'⟩
/-- has it parts -/
def inC : List Cd → Bool
  | (a, _) :: _ => decide (0 < a)
  | [] => false
theorem Pt1_u {p : List Cd} {w : List Int} {ps : List (List Cd)} (hp : ∀ x, x ∈ ps → GdC x) (h : Pt1 p ((ps.length, w) :: ps.flatten)) : p ∈ ps := by
  obtain ⟨w', ps', e, h1, h2⟩ := h
  have e0 := List.cons.inj e
  have el : ps.length = ps'.length := congrArg Prod.fst e0.1
  rw [prs_uni el hp h1 e0.2]
  exact h2
/-- all parts of parts, and how many of them have parts -/
theorem subs_ex : ∀ (f : Nat) (cs : List Cd), cs.length ≤ f → GdC cs → ∃ As : List (List Cd), cs ∈ As ∧ (∀ q, q ∈ As → ∀ p, Pt1 p q → p ∈ As) ∧ (As.filter inC).length = nIn cs := by
  intro f
  induction f with
  | zero =>
    intro cs hl hg
    obtain ⟨⟨f, hf⟩, _⟩ := hg
    rw [List.eq_nil_of_length_eq_zero (Nat.le_zero.mp hl)] at hf
    cases f <;> exact absurd hf (fun z => z)
  | succ f ih =>
    intro cs hl hg
    match cs, hg, hl with
    | [], hg, _ =>
      obtain ⟨⟨f, hf⟩, _⟩ := hg
      cases f <;> exact absurd hf (fun z => z)
    | (b, w) :: rest, hg, hl =>
    obtain ⟨hw, ps, p1, p4, p2, p3⟩ := GdC_u hg
    have all : ∀ qs : List (List Cd), (∀ p, p ∈ qs → p ∈ ps) → ∃ Bs : List (List Cd), (∀ p, p ∈ qs → p ∈ Bs) ∧ (∀ q, q ∈ Bs → ∀ p, Pt1 p q → p ∈ Bs) ∧ (Bs.filter inC).length = nIn qs.flatten := by
      intro qs
      induction qs with
      | nil => intro _; exact ⟨[], fun p hp => absurd hp List.not_mem_nil, fun q hq => absurd hq List.not_mem_nil, rfl⟩
      | cons p qs ihq =>
        intro hs
        obtain ⟨Bs, b1, b2, b3⟩ := ihq (fun p hp => hs p (List.mem_cons_of_mem _ hp))
        have hpm := hs p List.mem_cons_self
        have hlen : p.length ≤ f := by
          have := List.Sublist.length_le (List.sublist_flatten_of_mem hpm)
          rw [← p2, List.length_cons] at hl
          omega
        obtain ⟨As, a1, a2, a3⟩ := ih p hlen (p3 p hpm)
        refine ⟨As ++ Bs, fun x hx => ?_, fun q hq x hx => ?_, ?_⟩
        · rcases List.mem_cons.mp hx with e | hx
          · rw [e]; exact List.mem_append_left _ a1
          · exact List.mem_append_right _ (b1 x hx)
        · rcases List.mem_append.mp hq with hq | hq
          · exact List.mem_append_left _ (a2 q hq x hx)
          · exact List.mem_append_right _ (b2 q hq x hx)
        · rw [List.filter_append, List.length_append, a3, b3, List.flatten_cons, nIn_app]
    obtain ⟨Bs, b1, b2, b3⟩ := all ps (fun _ h => h)
    refine ⟨((b, w) :: rest) :: Bs, List.mem_cons_self, fun q hq p hp => ?_, ?_⟩
    · rcases List.mem_cons.mp hq with e | hq
      · rw [e, ← p1, ← p2] at hp
        exact List.mem_cons_of_mem _ (b1 p (Pt1_u p3 hp))
      · exact List.mem_cons_of_mem _ (b2 q hq p hp)
    · rw [nIn_c, ← p2, ← b3]
      have hb5 : b < 5 := by omega
      by_cases y : 0 < b
      · have e : inC ((b, w) :: ps.flatten) = true := decide_eq_true y
        rw [List.filter_cons_of_pos e, List.length_cons, if_pos ⟨y, hb5⟩]
        omega
      · have e : ¬ inC ((b, w) :: ps.flatten) = true := fun z => y (of_decide_eq_true z)
        rw [List.filter_cons_of_neg e, if_neg (fun z => y z.1)]
        omega
theorem Sub_in {As : List (List Cd)} (h : ∀ q, q ∈ As → ∀ p, Pt1 p q → p ∈ As) : ∀ (f : Nat) (p c : List Cd), c ∈ As → SubF f p c → p ∈ As := by
  intro f
  induction f with
  | zero => intro p c hc e; rw [show p = c from e]; exact hc
  | succ f ih =>
    intro p c hc hs
    obtain ⟨q, q1, q2⟩ := hs
    exact h q (ih q c hc q1) p q2
/-- of a list: all parts of parts -/
theorem subs_all : ∀ L : List (List Cd), (∀ p, p ∈ L → GdC p) → ∃ As : List (List Cd), (∀ c, c ∈ L → ∀ p, Sub p c → p ∈ As) ∧ (As.filter inC).length = (L.map nIn).sum := by
  intro L
  induction L with
  | nil => intro _; exact ⟨[], fun c hc => absurd hc List.not_mem_nil, rfl⟩
  | cons c L ih =>
    intro h
    obtain ⟨Bs, b1, b2⟩ := ih (fun p hp => h p (List.mem_cons_of_mem _ hp))
    obtain ⟨As, a1, a2, a3⟩ := subs_ex c.length c (Nat.le_refl _) (h c List.mem_cons_self)
    refine ⟨As ++ Bs, fun x hx p hp => ?_, by rw [List.filter_append, List.length_append, a3, b2, List.map_cons, List.sum_cons]⟩
    rcases List.mem_cons.mp hx with e | hx
    · rw [e] at hp
      obtain ⟨f, hf⟩ := hp
      exact List.mem_append_left _ (Sub_in a2 f p c a1 hf)
    · exact List.mem_append_right _ (b1 x hx p hp)
/-- names of a part are the whole's -/
theorem Sub_nm {w : List Int} : ∀ (f : Nat) (p c : List Cd), SubF f p c → (0, w) ∈ p → (0, w) ∈ c := by
  intro f
  induction f with
  | zero => intro p c e h; rw [← show p = c from e]; exact h
  | succ f ih =>
    intro p c hs h
    obtain ⟨q, q1, w', ps, e, _, q4⟩ := hs
    refine ih q c q1 ?_
    rw [e]
    exact List.mem_cons_of_mem _ (List.mem_flatten.mpr ⟨p, q4, h⟩)
