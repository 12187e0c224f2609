/-! ===== what holds by the rules: atom after atom, layer after layer; when it is too great ===== -/
theorem snoc_split {α : Type} {S l1 l2 : List α} {a b : α} (h : S ++ [b] = l1 ++ a :: l2) : (l2 = [] ∧ a = b ∧ l1 = S) ∨ ∃ l, l2 = l ++ [b] ∧ S = l1 ++ a :: l := by
  rcases List.eq_nil_or_concat l2 with e | ⟨l, x, e⟩
  · rw [e] at h
    have := List.append_inj' h rfl
    exact Or.inl ⟨e, (List.cons.inj this.2).1.symm, this.1.symm⟩
  · rw [List.concat_eq_append] at e
    rw [e, show l1 ++ a :: (l ++ [x]) = (l1 ++ a :: l) ++ [x] by simp] at h
    have := List.append_inj' h rfl
    exact Or.inr ⟨l, by rw [e, (List.cons.inj this.2).1], this.1⟩
section PRT
variable {rs : List Rul} {B : List Atm} {lev : List Int → Nat} {k : Nat} {S : List Atm} {a : Atm}
/-- layers below k are worked out -/
def Prt (rs : List Rul) (B : List Atm) (lev : List Int → Nat) (k : Nat) (S : List Atm) : Prop := (∀ a, a ∈ B → a ∈ S ∨ k ≤ lev a.1) ∧ Jst rs B (fun x => x ∈ S ∨ k ≤ lev x.1) S ∧ Clo rs (fun ru => lev ru.1.1 < k) S ∧ S.Nodup
/-- a reason for an atom -/
def Rsn (rs : List Rul) (B : List Atm) (lev : List Int → Nat) (k : Nat) (S : List Atm) (a : Atm) : Prop := a ∈ B ∨ ∃ ru, ru ∈ rs ∧ ∃ β, Gb β ∧ sbA β ru.1 = a ∧ Fir (fun x => x ∈ S) (fun x => x ∈ S ∨ k ≤ lev x.1) ru β
theorem Prt_add (hL : LvO lev rs) (h : Prt rs B lev k S) (hk : k ≤ lev a.1) (hn : ¬ a ∈ S) (hr : Rsn rs B lev k S a) : Prt rs B lev k (S ++ [a]) := by
  obtain ⟨h1, h2, h3, h4⟩ := h
  have neg : ∀ {x : Atm}, ¬ (x ∈ S ∨ k ≤ lev x.1) → ¬ (x ∈ S ++ [a] ∨ k ≤ lev x.1) := fun {x} z y => by
    rcases y with y | y
    · rcases List.mem_append.mp y with y | y
      · exact z (Or.inl y)
      · rw [List.mem_singleton.mp y] at z
        exact z (Or.inr hk)
    · exact z (Or.inr y)
  refine ⟨fun b hb => ?_, fun l1 b l2 e => ?_, fun ru hru hl β hβ hf => ?_, ?_⟩
  · rcases h1 b hb with y | y
    · exact Or.inl (List.mem_append_left _ y)
    · exact Or.inr y
  · rcases snoc_split e with ⟨_, e2, e3⟩ | ⟨l, _, e3⟩
    · rw [e2, e3]
      rcases hr with y | ⟨ru, r1, β, r2, r3, r4⟩
      · exact Or.inl y
      · exact Or.inr ⟨ru, r1, β, r2, r3, fun c hc => ⟨(r4 c hc).1, fun e => neg ((r4 c hc).2.1 e), (r4 c hc).2.2⟩⟩
    · rcases h2 l1 b l e3 with y | ⟨ru, r1, β, r2, r3, r4⟩
      · exact Or.inl y
      · exact Or.inr ⟨ru, r1, β, r2, r3, fun c hc => ⟨(r4 c hc).1, fun e => neg ((r4 c hc).2.1 e), (r4 c hc).2.2⟩⟩
  · refine List.mem_append_left _ (h3 ru hru hl β hβ (fun c hc => ⟨fun e => ?_, fun e z => (hf c hc).2.1 e (List.mem_append_left _ z), (hf c hc).2.2⟩))
    have l1 := (hL ru hru c hc).1 e
    rcases List.mem_append.mp ((hf c hc).1 e) with y | y
    · exact y
    · have := List.mem_singleton.mp y
      rw [← this, sbA_1] at hk
      omega
  · refine List.nodup_append.mpr ⟨h4, by simp, fun x hx y hy => ?_⟩
    rw [List.mem_singleton.mp hy]
    intro e
    rw [e] at hx
    exact hn hx
theorem Prt_up (h : Prt rs B lev k S) (hc : Clo rs (fun ru => lev ru.1.1 = k) S) (hb : ∀ a, a ∈ B → lev a.1 = k → a ∈ S) : Prt rs B lev (k + 1) S := by
  obtain ⟨h1, h2, h3, h4⟩ := h
  refine ⟨fun b hb' => ?_, fun l1 b l2 e => ?_, fun ru hru hl β hβ hf => ?_, h4⟩
  · rcases h1 b hb' with y | y
    · exact Or.inl y
    · by_cases z : lev b.1 = k
      · exact Or.inl (hb b hb' z)
      · exact Or.inr (by omega)
  · rcases h2 l1 b l2 e with y | ⟨ru, r1, β, r2, r3, r4⟩
    · exact Or.inl y
    · refine Or.inr ⟨ru, r1, β, r2, r3, Fir_mono (fun _ _ _ z => z) (fun _ _ _ z => ?_) r4⟩
      rcases z with z | z
      · exact Or.inl z
      · exact Or.inr (by omega)
  · by_cases z : lev ru.1.1 < k
    · exact h3 ru hru z β hβ hf
    · exact hc ru hru (by omega) β hβ hf
/-- how many atoms of a relation there are; a rule's room -/
def cntA (S : List Atm) (w : List Int) : Nat := (S.filter (fun a => decide (a.1 = w))).length
def rmL (S : List Atm) : List (Nat × Atm) → Nat
  | [] => 1
  | c :: cs => cntA S c.2.1 * rmL S cs
def rmA (S : List Atm) (ru : Rul) : Nat := rmL S (psC ru.2)
/-- a state and moves that are not too great: what holds of them -/
def EvG (rs : List Rul) (B S : List Atm) : Prop := (∀ a, a ∈ B → a ∈ S) ∧ Jst rs B (fun x => x ∈ S) S ∧ Clo rs (fun _ => True) S ∧ S.Nodup ∧ S.length ≤ 1000 ∧ (∀ a, a ∈ S → ∀ p, p ∈ a.2 → tlC p ≤ 48) ∧ ∀ ru, ru ∈ rs → rmA S ru ≤ 300000
theorem nd_le {S S' : List Atm} (h : S.Nodup) (hs : ∀ a, a ∈ S → a ∈ S') : S.length ≤ S'.length := List.Nodup.length_le_of_subset h (fun a ha => hs a ha)
theorem cnt_le {S S' : List Atm} (h : S.Nodup) (hs : ∀ a, a ∈ S → a ∈ S') (w : List Int) : cntA S w ≤ cntA S' w := by
  unfold cntA
  refine nd_le (List.Pairwise.filter _ h) (fun a ha => ?_)
  have := List.mem_filter.mp ha
  exact List.mem_filter.mpr ⟨hs a this.1, this.2⟩
theorem rml_le {S S' : List Atm} (h : S.Nodup) (hs : ∀ a, a ∈ S → a ∈ S') : ∀ cs : List (Nat × Atm), rmL S cs ≤ rmL S' cs := by
  intro cs
  induction cs with
  | nil => exact Nat.le_refl _
  | cons c cs ih => exact Nat.mul_le_mul (cnt_le h hs _) ih
theorem rm_le {S S' : List Atm} (h : S.Nodup) (hs : ∀ a, a ∈ S → a ∈ S') (ru : Rul) : rmA S ru ≤ rmA S' ru := rml_le h hs _
/-- a part is no greater than the whole -/
theorem Prt_le {S' : List Atm} (hL : LvO lev rs) (h : Prt rs B lev k S) (hE : EvG rs B S') : (∀ a, a ∈ S → a ∈ S') ∧ S.length ≤ 1000 ∧ (∀ a, a ∈ S → ∀ p, p ∈ a.2 → tlC p ≤ 48) ∧ ∀ ru, ru ∈ rs → rmA S ru ≤ 300000 := by
  obtain ⟨h1, h2, h3, h4⟩ := h
  obtain ⟨e1, e2, e3, e4, e5, e6, e7⟩ := hE
  have z := (jst_sub hL e1 e2 e3 h1 h2 h3).1
  exact ⟨z, Nat.le_trans (nd_le h4 z) e5, fun a ha => e6 a (z a ha), fun ru hru => Nat.le_trans (rm_le h4 z ru) (e7 ru hru)⟩
/-- what holds is one -/
theorem EvG_uni {S' : List Atm} (hL : LvO lev rs) (h : EvG rs B S) (h' : EvG rs B S') : (∀ a, a ∈ S' ↔ a ∈ S) ∧ S'.length = S.length ∧ (∀ w, cntA S' w = cntA S w) ∧ ∀ ru, rmA S' ru = rmA S ru := by
  have z := jst_uni hL h.1 h.2.1 h.2.2.1 h'.1 h'.2.1 h'.2.2.1
  have n := h.2.2.2.1
  have n' := h'.2.2.2.1
  have a := fun x hx => (z x).mp hx
  have b := fun x hx => (z x).mpr hx
  exact ⟨z, Nat.le_antisymm (nd_le n' a) (nd_le n b), fun w => Nat.le_antisymm (cnt_le n' a w) (cnt_le n b w), fun ru => Nat.le_antisymm (rm_le n' a ru) (rm_le n b ru)⟩
/-- all layers are worked out -/
theorem Prt_end (h : Prt rs B lev k S) (hr : ∀ ru, ru ∈ rs → lev ru.1.1 < k) (hb : ∀ a, a ∈ B → a ∈ S) (h5 : S.length ≤ 1000) (h6 : ∀ a, a ∈ S → ∀ p, p ∈ a.2 → tlC p ≤ 48) (h7 : ∀ ru, ru ∈ rs → rmA S ru ≤ 300000) : EvG rs B S := by
  obtain ⟨h1, h2, h3, h4⟩ := h
  refine ⟨hb, fun l1 a l2 e => ?_, fun ru hru _ => h3 ru hru (hr ru hru), h4, h5, h6, h7⟩
  rcases h2 l1 a l2 e with y | ⟨ru, r1, β, r2, r3, r4⟩
  · exact Or.inl y
  · exact Or.inr ⟨ru, r1, β, r2, r3, Fir_mono (fun _ _ _ z => z) (fun _ _ _ z => Or.inl z) r4⟩
/-- too great: an atom too long, or one too many -/
theorem Prt_long (hL : LvO lev rs) (h : Prt rs B lev k S) (hk : k ≤ lev a.1) (hr : Rsn rs B lev k S a) (hp : ∃ p, p ∈ a.2 ∧ 48 < tlC p) : ¬ ∃ S', EvG rs B S' := by
  rintro ⟨S', hE⟩
  obtain ⟨p, p1, p2⟩ := hp
  by_cases hn : a ∈ S
  · have := (Prt_le hL h hE).2.2.1 a hn p p1
    omega
  · have := (Prt_le hL (Prt_add hL h hk hn hr) hE).2.2.1 a (by simp) p p1
    omega
theorem Prt_many (hL : LvO lev rs) (h : Prt rs B lev k S) (hk : k ≤ lev a.1) (hn : ¬ a ∈ S) (hr : Rsn rs B lev k S a) (hp : 1000 ≤ S.length) : ¬ ∃ S', EvG rs B S' := by
  rintro ⟨S', hE⟩
  have := (Prt_le hL (Prt_add hL h hk hn hr) hE).2.1
  rw [List.length_append, List.length_singleton] at this
  omega
theorem Prt_room (hL : LvO lev rs) (h : Prt rs B lev k S) {ru : Rul} (hru : ru ∈ rs) (hp : 300000 < rmA S ru) : ¬ ∃ S', EvG rs B S' := by
  rintro ⟨S', hE⟩
  have := (Prt_le hL h hE).2.2.2 ru hru
  omega
end PRT
