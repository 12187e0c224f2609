/-! ===== the class's nodes: each is a variable's, or has a name and parts ===== -/
/-- at most eight variables -/
abbrev vbC (cs : List Cd) : Prop := ∀ c, c ∈ cs → 5 ≤ c.1 → c.1 < 13
def GdN (X : Int → List Int → Prop) (s : Nat) (m : PM) (k : Int) : Prop := (m (s + 7) k = 0 ∧ ∃ v : Nat, v < 8 ∧ m (s + 10) k = ((2 ^ v : Nat) : Int)) ∨ ∃ (w : List Int) (ps : List (List Cd)), (0 ≤ k - (ps.flatten.length : Int) ∧ vbC ps.flatten) ∧ NdC X s 11 m k (fun x => X x w) ps
def CovC (X : Int → List Int → Prop) (s : Nat) (m : PM) (a b : Int) : Prop := ∀ k, a ≤ k → k < b → GdN X s m k
section CGD
variable {X : Int → List Int → Prop} {s : Nat}
theorem GdN_cg {m m' : PM} {N k : Int} (hk : k < N) (h1 : ∀ i, i < N → m' (s + 6) i = m (s + 6) i ∧ m' (s + 7) i = m (s + 7) i ∧ m' (s + 9) i = m (s + 9) i ∧ m' (s + 10) i = m (s + 10) i) (h2 : ∀ i, i < 4 * N → m' (s + 8) i = m (s + 8) i) (h : GdN X s m k) : GdN X s m' k := by
  obtain ⟨c1, c2, c3, c4⟩ := h1 k hk
  rcases h with ⟨a1, v, a2, a3⟩ | ⟨w, ps, ⟨a0, av⟩, b1, b2, b3, b4, b5, b6⟩
  · exact Or.inl ⟨by rw [c2]; exact a1, v, a2, by rw [c4]; exact a3⟩
  · refine Or.inr ⟨w, ps, ⟨a0, av⟩, by rw [c1]; exact b1, by rw [c2]; exact b2, by rw [c4]; exact b3, by rw [c3]; exact b4, b5, ?_⟩
    exact PcR_fr (fun i hi => h2 _ (by omega)) (fun i _ hi => h1 i (by omega)) (fun i _ hi => h2 i (by omega)) b6
theorem CovC_cg {m m' : PM} {a b N : Int} (hb : b ≤ N) (h1 : ∀ i, i < N → m' (s + 6) i = m (s + 6) i ∧ m' (s + 7) i = m (s + 7) i ∧ m' (s + 9) i = m (s + 9) i ∧ m' (s + 10) i = m (s + 10) i) (h2 : ∀ i, i < 4 * N → m' (s + 8) i = m (s + 8) i) (h : CovC X s m a b) : CovC X s m' a b := fun k k1 k2 => GdN_cg (by omega) h1 h2 (h k k1 k2)
theorem PcR_co2 {R : Int → List Cd → Prop} {B : Int → Prop} {r : Int → Int} {w : Int} : ∀ (ps : List (List Cd)) (j : Nat) (k : Int), 0 ≤ k → (∀ x p, p ∈ ps → R x p → 0 ≤ x + 1 - (p.length : Int) → ∀ i, x + 1 - (p.length : Int) ≤ i → i ≤ x → B i) → PcR R r w j k ps → ∀ i, k ≤ i → i < k + (ps.flatten.length : Int) → B i := by
  intro ps
  induction ps with
  | nil =>
    intro j k _ _ _ i h1 h2
    have : ((([] : List (List Cd)).flatten.length : Nat) : Int) = 0 := rfl
    omega
  | cons p ps ih =>
    intro j k hk h hp i h1 h2
    obtain ⟨a1, a2, a3⟩ := hp
    have hl : ((p :: ps).flatten.length : Int) = p.length + ps.flatten.length := by simp
    by_cases c : i < k + (p.length : Int)
    · exact h _ p (by simp) a2 (by omega) i (by omega) (by omega)
    · exact ih (j + 1) _ (by omega) (fun x q hq => h x q (by simp [hq])) a3 i (by omega) (by omega)
theorem TcR_gd {m : PM} : ∀ (f : Nat) (x : Int) (p : List Cd), f ≤ 11 → vbC p → TcR X s f m x p → 0 ≤ x + 1 - (p.length : Int) → ∀ k, x + 1 - (p.length : Int) ≤ k → k ≤ x → GdN X s m k := by
  intro f
  induction f with
  | zero => intro x p _ _ h; exact absurd h (fun z => z)
  | succ f ih =>
    intro x p hf hv h h0 k k0 k1
    cases p with
    | nil => exact absurd h (fun z => z)
    | cons c rest =>
      obtain ⟨a, w⟩ := c
      have len1 : (((a, w) :: rest : List Cd).length : Int) = rest.length + 1 := by simp
      unfold TcR at h
      simp only at h
      obtain ⟨h1, h2, h3⟩ := h
      by_cases c5 : 5 ≤ a
      · rw [if_pos c5] at h3
        have hr : rest.length = 0 := by rw [h3.1]; rfl
        have ek : k = x := by omega
        rw [ek]
        have ha := hv (a, w) List.mem_cons_self c5
        refine Or.inl ⟨h3.2.2, a - 5, by show a - 5 < 8; omega, ?_⟩
        rw [h1, h3.1]
        show (((if 5 ≤ (a, w).1 then 2 ^ ((a, w).1 - 5) else 0) ||| vmC [] : Nat) : Int) = _
        rw [if_pos c5]
        show ((2 ^ (a - 5) ||| 0 : Nat) : Int) = _
        rw [Nat.or_zero]
      · rw [if_neg c5] at h3
        obtain ⟨ps, p1, p2, p3, p4, p5⟩ := h3
        have ev : vmC ((a, w) :: rest) = vmC rest := by
          show (if 5 ≤ (a, w).1 then 2 ^ ((a, w).1 - 5) else 0) ||| vmC rest = vmC rest
          rw [if_neg c5, Nat.zero_or]
        have pl : (ps.flatten.length : Int) = rest.length := by rw [p2]
        have hvr : vbC ps.flatten := fun c hc => hv c (List.mem_cons_of_mem _ (by rw [← p2]; exact hc))
        by_cases ek : k = x
        · rw [ek]
          refine Or.inr ⟨w, ps, ⟨by omega, hvr⟩, p3, by rw [p4, p1], by rw [h1, ev, p2], by rw [h2, p2], by omega, ?_⟩
          rw [p2]
          exact PcR_cg ps 0 _ (fun _ _ _ => rfl) (fun y p _ _ hR => TcR_mono f 11 y p (by omega) hR) p5
        · exact PcR_co2 ps 0 _ (by omega) (fun y q hq hR h0' i i0 i1 => ih y q (by omega) (fun c hc => hvr c (List.mem_flatten.mpr ⟨q, hq, hc⟩)) hR h0' i i0 i1) p5 k (by omega) (by omega)
/-- all nodes of an atom -/
theorem cov_at {m m' : PM} {x : Int} {L : Int → Prop} {ps : List (List Cd)} (hL : ∀ y, L y → ∃ w, X y w) (hv : vbC ps.flatten) (h0 : 0 ≤ x - (ps.flatten.length : Int)) (h : NdC X s 11 m x L ps) (k : ∀ c j, s + 6 ≤ c → c ≤ s + 10 → m' c j = m c j) : CovC X s m' (x - (ps.flatten.length : Int)) (x + 1) := by
  refine CovC_cg (N := x + 1) (Int.le_refl _) (fun i _ => ⟨k _ _ (by omega) (by omega), k _ _ (by omega) (by omega), k _ _ (by omega) (by omega), k _ _ (by omega) (by omega)⟩) (fun i _ => k _ _ (by omega) (by omega)) (fun i i0 i1 => ?_)
  by_cases e : i = x
  · rw [e]
    obtain ⟨b1, b2⟩ := h
    obtain ⟨w, hw⟩ := hL _ b1
    exact Or.inr ⟨w, ps, ⟨h0, hv⟩, hw, b2⟩
  · exact PcR_co2 ps 0 _ h0 (fun y q hq hR h0' j j0 j1 => TcR_gd 11 y q (Nat.le_refl _) (fun c hc => hv c (List.mem_flatten.mpr ⟨q, hq, hc⟩)) hR h0' j j0 j1) h.2.2.2.2.2 i i0 (by omega)
theorem ok_vb {a : Atm} (h : OkA a) : vbC a.2.flatten := fun c hc h5 => by
  obtain ⟨p, hp, hcp⟩ := List.mem_flatten.mp hc
  exact (wfT_ok 11 p (h.2 p hp) c hcp h5).2
end CGD
