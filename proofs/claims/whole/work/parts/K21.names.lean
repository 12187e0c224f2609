/-! ===== the names without parts: those of the rules and of what is given ===== -/
/-- a name without parts in a rule's head -/
def RlN (rs : List Rul) (w : List Int) : Prop := ∃ ru, ru ∈ rs ∧ ∃ p, p ∈ ru.1.2 ∧ ((0, w) : Cd) ∈ p
theorem nm_occ {rs : List Rul} (hg : GoS rs) {B S : List Atm} (h : EvG rs B S) : ∀ a, a ∈ S → ∀ p, p ∈ a.2 → ∀ w, ((0, w) : Cd) ∈ p → RlN rs w ∨ ∃ b, b ∈ B ∧ ∃ p', p' ∈ b.2 ∧ ((0, w) : Cd) ∈ p' := by
  refine jst_ind h.2.1 (fun a ha hj => ?_)
  rcases hj with hB | ⟨ru, hru, β, hβ, hs, hf⟩
  · exact fun p hp w hw => Or.inr ⟨a, hB, p, hp, hw⟩
  · intro p hp w hw
    rw [← hs] at hp
    obtain ⟨p0, h0, e0⟩ := List.mem_map.mp (show p ∈ ru.1.2.map (sbC β) from hp)
    rw [← e0] at hw
    obtain ⟨c, hc, hcw⟩ := List.mem_flatMap.mp (show ((0, w) : Cd) ∈ p0.flatMap (fun c => if 5 ≤ c.1 then β (c.1 - 5) else [c]) from hw)
    by_cases y : 5 ≤ c.1
    · rw [if_pos y] at hcw
      obtain ⟨r, hr, er⟩ := (mem_gD rs ruD ru).mp hru
      have hok := hg.1 ru hru
      have h13 := (wfT_ok _ _ (hok.1.2 p0 h0) c hc y).2
      have nb := ((chF_ok hg.2.2.2.2).1 r hr).2.2.1
      have hp1 : ∃ c', c' ∈ ru.2 ∧ c'.1 = 1 ∧ atW c'.2 (c.1 - 5) := Classical.byContradiction fun z => nb ⟨c.1 - 5, by omega, by rw [er]; exact Or.inl ⟨p0, h0, c, hc, by omega⟩, by rw [er]; exact z⟩
      obtain ⟨c', hc', k1, p1, hp1, c2, hc2, e2⟩ := hp1
      obtain ⟨hS, hT⟩ := (hf c' hc').1 k1
      refine hT (sbC β p1) (List.mem_map.mpr ⟨p1, hp1, rfl⟩) w ?_
      refine List.mem_flatMap.mpr ⟨c2, hc2, ?_⟩
      rw [if_pos (by omega), show c2.1 - 5 = c.1 - 5 by omega]
      exact hcw
    · rw [if_neg y] at hcw
      rw [← List.mem_singleton.mp hcw] at hc
      exact Or.inl ⟨ru, hru, p0, h0, hc⟩
section CNO
variable {X : Int → List Int → Prop} {s q : Nat} {m : PM} {rs : List Rul}
theorem TcR_nm : ∀ (f : Nat) (k : Int) (cs : List Cd) (w : List Int), TcR X s f m k cs → ((0, w) : Cd) ∈ cs → 0 ≤ k + 1 - (cs.length : Int) → ∃ k' : Nat, (k' : Int) ≤ k ∧ TcR X s f m (k' : Int) [(0, w)] := by
  intro f
  induction f with
  | zero => intro k cs w h; exact h.elim
  | succ f ih =>
    intro k cs w h hw hk
    have h0 := h
    cases cs with
    | nil => exact absurd hw List.not_mem_nil
    | cons c rest =>
      obtain ⟨a, w'⟩ := c
      obtain ⟨h1, h2, h3⟩ := h
      rw [List.length_cons] at hk
      by_cases y : 5 ≤ a
      · rw [if_pos y] at h3
        rcases List.mem_cons.mp hw with e | e
        · have : a = 0 := (congrArg Prod.fst e).symm
          omega
        · rw [h3.1] at e
          exact absurd e List.not_mem_nil
      · rw [if_neg y] at h3
        obtain ⟨ps, p1, p2, p3, p4, p5⟩ := h3
        rcases List.mem_cons.mp hw with e | e
        · have ea : a = 0 := (congrArg Prod.fst e).symm
          have ew : w' = w := (congrArg Prod.snd e).symm
          have ep : ps = [] := List.eq_nil_of_length_eq_zero (by omega)
          have er : rest = [] := by rw [← p2, ep]; rfl
          rw [er, ea, ew] at h0
          refine ⟨k.toNat, by omega, ?_⟩
          rw [Int.toNat_of_nonneg (by rw [er] at hk; simp only [List.length_nil] at hk; omega)]
          exact h0
        · rw [← p2] at e
          obtain ⟨p, hp, hwp⟩ := List.mem_flatten.mp e
          obtain ⟨i, hi, ei⟩ := (mem_gD ps [] p).mp hp
          obtain ⟨x, x1, x2, x3, x4, _⟩ := PcR_at ps 0 _ p5 i hi
          rw [ei] at x3 x4
          rw [p2] at x2
          obtain ⟨k', k1, k2⟩ := ih x p w x4 hwp (by omega)
          exact ⟨k', by omega, TcR_mono _ _ _ _ (Nat.le_succ f) k2⟩
theorem nm_rl (hv : KV X s m rs) {T : Nat} (hG : GrI X q s m T (m s 6).toNat) {w : List Int} (h : RlN rs w) : ∃ u : Nat, u < T ∧ Cg X q m u [(0, w)] := by
  obtain ⟨ru, hru, p, hp, hw⟩ := h
  obtain ⟨r, hr, er⟩ := (mem_gD rs ruD ru).mp hru
  obtain ⟨⟨k1, k2, k3⟩, _⟩ := KV_head hv hr
  rw [er] at k2 k3
  obtain ⟨n1, n2, n3, n4, n5, n6⟩ := k3
  obtain ⟨i, hi, ei⟩ := (mem_gD ru.1.2 [] p).mp hp
  have n6' : PcR (TcR X s 11 m) (m (s + 8)) (4 * m (s + 11) (r : Int)) 0 (m (s + 11) (r : Int) - (ru.1.2.flatten.length : Int)) ru.1.2 := n6
  obtain ⟨x, x1, x2, x3, x4, _⟩ := PcR_at ru.1.2 0 _ n6' i hi
  rw [ei] at x3 x4
  have k2' : 0 ≤ m (s + 11) (r : Int) - (ru.1.2.flatten.length : Int) := k2
  obtain ⟨k', y1, y2⟩ := TcR_nm 11 x p w x4 hw (by omega)
  obtain ⟨u, u1, u2, u3⟩ := hG k' (by omega) [(0, w)] y2 (fun c hc => by rw [List.mem_singleton.mp hc]; exact (by decide : (0 : Nat) < 5))
  exact ⟨u, u2, u3⟩
end CNO
