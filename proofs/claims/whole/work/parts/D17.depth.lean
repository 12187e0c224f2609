/-! ===== a term's depth is that of its codes ===== -/
theorem Tg_dep {m : PM} : ∀ (f g t : Nat) (cs : List Cd), wfS f cs → TgR g m t cs → TgR f m t cs := by
  intro f
  induction f with
  | zero => intro g t cs h; exact absurd h (fun z => z)
  | succ f ih =>
    intro g t cs h hg
    cases g with
    | zero => exact absurd hg (fun z => z)
    | succ g =>
      obtain ⟨w, ps, rfl, h2, h3, h4, h5⟩ := hg
      obtain ⟨qs, q1, q2, q3⟩ := (wfS_n (by omega)).mp h
      have ep : qs = ps := by
        refine (wfS_list (wfS_pre (f + g)) qs ps [] [] q1 (fun p hp => wfS_mono f _ _ (by omega) (q3 p hp)) (fun p hp => ?_) (by rw [List.append_nil, List.append_nil]; exact q2)).1
        obtain ⟨k, hk, e⟩ := mem_gD2 hp
        obtain ⟨u, _, _, e3⟩ := h5 k hk
        rw [e] at e3
        exact wfS_mono g _ _ (by omega) (TgR_wf g u p e3)
      subst ep
      refine ⟨w, qs, rfl, h2, h3, h4, fun k hk => ?_⟩
      obtain ⟨u, e1, e2, e3⟩ := h5 k hk
      refine ⟨u, e1, e2, ih g u _ (q3 _ ?_) e3⟩
      rw [List.getD_eq_getElem?_getD, List.getElem?_eq_getElem hk]
      exact List.getElem_mem hk
/-- without variables binding does nothing -/
theorem sbC_gnd {β : Nat → List Cd} : ∀ cs : List Cd, gnd cs → sbC β cs = cs := by
  intro cs
  induction cs with
  | nil => intro _; rfl
  | cons c cs ih =>
    intro hg
    show sbC β ([c] ++ cs) = [c] ++ cs
    rw [sbC_app, ih (fun c' hc => hg c' (List.mem_cons_of_mem _ hc))]
    have h := hg c List.mem_cons_self
    have e : sbC β [c] = [c] := by
      unfold sbC
      rw [List.flatMap_cons, List.flatMap_nil, List.append_nil]
      exact if_neg (by omega)
    rw [e]
/-- how long a text is: each code gives its name, and two signs and a space a part if it has parts -/
theorem tl_app (p q : List Cd) : tlC (p ++ q) = tlC p + tlC q := by
  unfold tlC
  rw [List.map_append, List.sum_append]
theorem tl_flat : ∀ ps : List (List Cd), tlC ps.flatten = (ps.map tlC).sum := by
  intro ps
  induction ps with
  | nil => rfl
  | cons p ps ih =>
    rw [List.flatten_cons, tl_app, ih, List.map_cons, List.sum_cons]
theorem tl_tx : ∀ (f : Nat) (cs : List Cd), wfS f cs → gnd cs → ((tx cs).length : Int) = tlC cs := by
  intro f
  induction f with
  | zero => intro cs h; exact absurd h (fun z => z)
  | succ f ih =>
    intro cs h hg
    cases cs with
    | nil => exact absurd h (fun z => z)
    | cons c rest =>
      obtain ⟨n, w⟩ := c
      have hn : ¬ 5 ≤ n := by
        have := hg (n, w) List.mem_cons_self
        show ¬ 5 ≤ (n, w).1
        omega
      obtain ⟨ps, h1, h2, h3⟩ := (wfS_n hn).mp h
      have hgp : ∀ q, q ∈ ps → wfS f q ∧ gnd q := fun q hq => ⟨h3 q hq, fun c hc => hg c (List.mem_cons_of_mem _ (by rw [← h2]; exact List.mem_flatten.mpr ⟨q, hq, hc⟩))⟩
      have e0 : tlC ((n, w) :: rest) = ((w.length : Int) + (if n = 0 then 0 else 2 + (n : Int))) + tlC rest := by
        unfold tlC
        rw [List.map_cons, List.sum_cons]
      have eP : ∀ qs : List (List Cd), (∀ q, q ∈ qs → wfS f q ∧ gnd q) → ((txP qs).length : Int) = (qs.length : Int) + (qs.map tlC).sum := by
        intro qs
        induction qs with
        | nil => intro _; rfl
        | cons q qs ihq =>
          intro hq
          have a := hq q List.mem_cons_self
          have b := ih q a.1 a.2
          have c := ihq (fun q' hq' => hq q' (List.mem_cons_of_mem _ hq'))
          have e : txP (q :: qs) = (32 :: tx q) ++ txP qs := by
            unfold txP
            rw [List.map_cons, List.flatten_cons]
          rw [e, List.length_append, List.length_cons, List.map_cons, List.sum_cons, List.length_cons]
          omega
      rw [e0, ← h2, tl_flat]
      by_cases n0 : n = 0
      · have ep : ps = [] := List.eq_nil_of_length_eq_zero (by omega)
        rw [ep, if_pos n0, n0]
        show ((tx [(0, w)]).length : Int) = _
        rw [tx_0]
        simp
      · have z := eP ps hgp
        rw [if_neg n0, ← h1, tx_n (by omega) hgp, List.length_cons, List.length_append, List.length_append, List.length_singleton]
        omega
