/-! ===== how long a term's text is, by its names and parentheses ===== -/
/-- signs of the names, and two a code with parts -/
def wC (cs : List Cd) : Int := (cs.map fun c => (c.2.length : Int) + (if c.1 = 0 then 0 else 2)).sum
def nC (cs : List Cd) : Int := (cs.map fun c => (c.1 : Int)).sum
theorem wC_app (p q : List Cd) : wC (p ++ q) = wC p + wC q := by
  unfold wC
  rw [List.map_append, List.sum_append]
theorem nC_app (p q : List Cd) : nC (p ++ q) = nC p + nC q := by
  unfold nC
  rw [List.map_append, List.sum_append]
theorem tl_wn : ∀ cs : List Cd, tlC cs = wC cs + nC cs := by
  intro cs
  induction cs with
  | nil => rfl
  | cons c cs ih =>
    unfold tlC wC nC at *
    rw [List.map_cons, List.sum_cons, List.map_cons, List.sum_cons, List.map_cons, List.sum_cons, ih]
    by_cases h : c.1 = 0
    · rw [if_pos h, if_pos h, h]
      omega
    · rw [if_neg h, if_neg h]
      omega
theorem nC_wf : ∀ (f : Nat) (cs : List Cd), wfS f cs → gnd cs → nC cs = (cs.length : Int) - 1 := by
  intro f
  induction f with
  | zero => intro cs h; exact absurd h (fun z => z)
  | succ f ih =>
    intro cs h hg
    cases cs with
    | nil => exact absurd h (fun z => z)
    | cons c rest =>
      obtain ⟨n, w⟩ := c
      have hn : ¬ 5 ≤ n := by
        have := hg (n, w) List.mem_cons_self
        show ¬ 5 ≤ (n, w).1
        omega
      obtain ⟨ps, h1, h2, h3⟩ := (wfS_n hn).mp h
      have hgp : ∀ q, q ∈ ps → wfS f q ∧ gnd q := fun q hq => ⟨h3 q hq, fun c hc => hg c (List.mem_cons_of_mem _ (by rw [← h2]; exact List.mem_flatten.mpr ⟨q, hq, hc⟩))⟩
      have eP : ∀ qs : List (List Cd), (∀ q, q ∈ qs → wfS f q ∧ gnd q) → nC qs.flatten + (qs.length : Int) = (qs.flatten.length : Int) := by
        intro qs
        induction qs with
        | nil => intro _; rfl
        | cons q qs ihq =>
          intro hq
          have a := hq q List.mem_cons_self
          have b := ih q a.1 a.2
          have c := ihq (fun q' hq' => hq q' (List.mem_cons_of_mem _ hq'))
          rw [List.flatten_cons, nC_app, List.length_append, List.length_cons]
          omega
      have z := eP ps hgp
      have e0 : nC ((n, w) :: rest) = (n : Int) + nC rest := by
        unfold nC
        rw [List.map_cons, List.sum_cons]
      rw [h2] at z
      rw [e0, List.length_cons]
      omega
theorem tx_len {f : Nat} {cs : List Cd} (h : wfS f cs) (hg : gnd cs) : ((tx cs).length : Int) = wC cs + (cs.length : Int) - 1 := by
  have a := tl_tx f cs h hg
  have b := tl_wn cs
  have c := nC_wf f cs h hg
  omega
