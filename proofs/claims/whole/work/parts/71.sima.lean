/-! ===== the reference's reader: atoms, whole ===== -/
section SIA
variable {t : Int → Int} {n : Int} {μ : am_Mem} {l : PM}
theorem adM_cg {g g2 : PM} (e1 : g2 128 = g 128) (e2 : g2 125 8 = g 125 8) (e3 : g2 125 31 = g 125 31) : ∀ j, (j = 28 ∨ j = 29 ∨ j = 30 ∨ j = 31) → adM g2 125 j = adM g 125 j := by
  intro j hj
  unfold adM
  rw [e1, e2, e3]
  rcases hj with rfl | rfl | rfl | rfl
  · rw [up_s, up_s]
  · rw [up_i (by decide), up_i (by decide), up_i (by decide), up_s, up_i (by decide), up_i (by decide), up_i (by decide), up_s]
  · rw [up_i (by decide), up_i (by decide), up_s, up_i (by decide), up_i (by decide), up_s]
  · rw [up_i (by decide), up_s, up_i (by decide), up_s]
theorem BI_within {g : PM} {i : Nat} {vs : List (List Int)} {o a b : Int} (hB : BI t n (adM g) i vs) (h34 : g 125 34 = o) : BI t n (adM (m_within g a b)) i vs := by
  rw [within_eq h34]
  generalize hW : up (up (up (up g 143 o a) 144 o 0) 145 o b) 125 34 (o + 1) = g2
  have hE : ∀ c j, ¬ (c = 143 ∨ c = 144 ∨ c = 145 ∨ (c = 125 ∧ j = 34)) → g2 c j = g c j := by
    intro c j h2
    rw [← hW, up_o (by omega), up_o (by omega), up_o (by omega), up_o (by omega)]
  have tok := adM_cg (g := g) (g2 := g2) (funext fun j => hE _ _ (by omega)) (hE _ _ (by omega)) (hE _ _ (by omega))
  refine BI_cg hB (fun c j h => ?_)
  by_cases q : c = 125 ∧ (j = 28 ∨ j = 29 ∨ j = 30 ∨ j = 31)
  · obtain ⟨rfl, q⟩ := q
    exact tok j q
  · rw [adM_o q, adM_o q, hE c j (by omega)]
/-- the parts of an atom, or of distinct, and its end -/
theorem atom_parts (H : RS μ) (hn : 0 ≤ n ∧ n ≤ 2000) {dl i : Nat} {vs : List (List Int)} {m1 : PM} {what o1 A k0 : Int} (hw : what = 2 ∨ what = 4) (hI : PI2 t n (dl + 1) m1 i vs what o1 A 136 137 k0 []) (ho : o1 + dl = 10) (mn mx : Nat) (hmn : mn = if what = 4 then 2 else 1) (hmx : mx = if what = 4 then 2 else 4) :
    match pPs (tK t n) (pT t n dl) mn mx i vs [] with
      | .inl x => ∃ m', Rch μ l m1 m' ∧ Flt t n m1 m' x
      | .inr (ps, i', vs') => ∃ m3, Rch μ l m1 m3 ∧ BI t n m3 i' vs' ∧ (∀ c j, ¬ SPl k0 o1 A 136 137 c j → m3 c j = m1 c j) ∧ m3 125 34 = o1 - 1 ∧ m3 125 22 = k0 + ps.flatten.length ∧ m3 137 A = ps.length ∧ PsR (TmR 11 m3) m3 136 A 0 k0 ps ∧ (∀ x u, nX m1 x u → nX m3 x u) ∧ ps.length ≤ 4 := by
  have hPL := PL (l := l) H (simT H hn dl) (what := what) (o := o1) (w := A) (ct := 136) (cc := 137) (k0 := k0) ho mn mx hmn hmx mx i vs [] m1 (by simp) hI
  have hA : A < 600 := by
    rcases hI.2.2.2.2.2 with ⟨_, z, _⟩ | ⟨_, _, _, z, _⟩
    · exact absurd z (by decide)
    · exact z
  generalize pPs (tK t n) (pT t n dl) mn mx i vs [] = res at hPL ⊢
  match res, hPL with
  | .inl x, hPL => exact hPL
  | .inr (ps, i', vs'), hPL =>
    obtain ⟨m2, i0, rfl, a2, a3, a4, a5, a6, a7, a8⟩ := hPL
    have hc := close_e (l := l) H hn a6 a2 (by rw [← hmn]; exact a3) (by rw [← hmx]; exact a4) (by omega)
    rw [if_neg (by omega)] at hc
    generalize hg : up m2 125 34 (o1 - 1) = g at hc
    obtain ⟨p1, ⟨p2, p3, p4, p5, p6, p7, p8⟩, p9, p10, p11, -⟩ := a6
    have g1 : ∀ c j, ¬ (c = 125 ∧ j = 34) → g c j = m2 c j := by
      intro c j q
      rw [← hg, up_o q]
    have g2 : ∀ c j, ¬ (c = 125 ∧ (j = 34 ∨ j = 28 ∨ j = 29 ∨ j = 30 ∨ j = 31)) → adM g c j = m2 c j := by
      intro c j q
      rw [adM_o (by omega), g1 c j (by omega)]
    have hX2 : ∀ x u, nX m2 x u → nX (adM g) x u := fun x u z => nX_cg (g2 _ _ (by omega)) (fun j => g2 _ _ (by omega)) (fun j => g2 _ _ (by omega)) z
    refine ⟨adM g, a5.trans hc, BI_skip (BI_cg p1 (fun c j q => g1 c j (by omega))) (nN1 (Or.inr (Or.inl a2))), fun c j q => ?_, ?_, ?_, ?_, ?_, fun x u z => hX2 x u (a8 x u z), by rw [hmx] at a4; split at a4 <;> omega⟩
    · rw [g2 c j (fun z => q (Or.inl ⟨z.1, by omega⟩)), a7 c j q]
    · rw [adM_o (by omega), ← hg, up_s]
    · rw [g2 _ _ (by omega), p10]
    · rw [g2 _ _ (by omega), p9]
    · refine PsR_cg ps 0 k0 (fun j _ _ => g2 _ _ (by omega)) (fun y p hy hpl hR => ?_) p11
      exact TmR_cg hX2 11 y p (fun j j1 j2 => ⟨g2 _ _ (by omega), g2 _ _ (by omega), g2 _ _ (by omega), g2 _ _ (by omega)⟩) (fun j j1 j2 => g2 _ _ (by omega)) (TmR_mono (dl + 1) 11 y p (by omega) hR)
/-- an atom has been read, as head (0) or condition -/
def AP (m m' : PM) (at_ : Atm) (s : Int) (dd : Bool) : Prop :=
  (∀ c j, ¬ SA (m 125 22) (m 125 34) (m 125 18) (m 125 15) (m 125 12) c j → m' c j = m c j) ∧ m' 125 34 = m 125 34 ∧ m' 125 18 = m 125 18 + 1 ∧ m 125 22 ≤ m' 125 22 ∧ AtR m' (m 125 18) at_ dd (m' 125 22) ∧ (∀ x u, nX m x u → nX m' x u) ∧ (s = 0 → m' 131 (m 125 12 - 1) = m 125 18 ∧ m' 125 15 = m 125 15 ∧ m' 132 (m 125 12) = m 132 (m 125 12)) ∧ (¬ s = 0 → m' 133 (m 125 15) = s ∧ m' 134 (m 125 15) = m 125 18 ∧ m' 125 15 = m 125 15 + 1 ∧ m' 132 (m 125 12) = m 125 15 + 1 ∧ m' 131 (m 125 12 - 1) = m 131 (m 125 12 - 1))
theorem AB_SA {m : PM} {c : Nat} {j : Int} (h : ¬ SA (m 125 22) (m 125 34) (m 125 18) (m 125 15) (m 125 12) c j) : ¬ ((c = 125 ∧ (j = 9 ∨ j = 15 ∨ j = 18)) ∨ c = 129 ∨ c = 130 ∨ (c = 131 ∧ j = m 125 12 - 1) ∨ (c = 132 ∧ j = m 125 12) ∨ ((c = 133 ∨ c = 134) ∧ j = m 125 15) ∨ ((c = 135 ∨ c = 137) ∧ j = m 125 18)) := by
  intro z
  apply h
  clear h
  rcases z with z | z | z | z | z | ⟨z1, z2⟩ | ⟨z1, z2⟩
  · exact Or.inl ⟨z.1, by omega⟩
  · exact Or.inr (Or.inl z)
  · exact Or.inr (Or.inr (Or.inl z))
  · exact Or.inr (Or.inr (Or.inr (Or.inr (Or.inr (Or.inr (Or.inr (Or.inl z)))))))
  · exact Or.inr (Or.inr (Or.inr (Or.inr (Or.inr (Or.inr (Or.inr (Or.inr (Or.inl z))))))))
  · exact Or.inr (Or.inr (Or.inr (Or.inr (Or.inr (Or.inr (Or.inr (Or.inr (Or.inr (Or.inl ⟨z1, by omega⟩)))))))))
  · exact Or.inr (Or.inr (Or.inr (Or.inr (Or.inr (Or.inr (Or.inr (Or.inr (Or.inr (Or.inr (Or.inl ⟨z1, by omega⟩))))))))))
theorem SA_tok {nd o A C R : Int} {c : Nat} {j : Int} (h : ¬ SA nd o A C R c j) : ¬ (c = 125 ∧ (j = 28 ∨ j = 29 ∨ j = 30 ∨ j = 31)) := fun z => h (Or.inl ⟨z.1, by omega⟩)
theorem AP_name (hn : 0 ≤ n ∧ n ≤ 2000) {m : PM} {i : Nat} {vs : List (List Int)} {s : Int} (hB : BI t n m i vs) (hp : pln t n i) : AP m (adM (abM (nmM m (m 125 30) (m 125 31)) (nmI m (m 125 30) (m 125 31)) s)) (tW t n i, []) s false := by
  obtain ⟨a1, a2, a3, a4, a5⟩ := BI_name hn hB (Or.inl hp.1)
  obtain ⟨-, hX⟩ := AB_BI (v := (nmI m (m 125 30) (m 125 31) : Int)) hn hB (Or.inl hp.1) s
  obtain ⟨⟨c1, c2, c3, c4, c5, c6⟩, -⟩ := abM_AB (v := (nmI m (m 125 30) (m 125 31) : Int)) (s := s) (nmM_hs3 (m := m) (a := m 125 30) (b := m 125 31))
  have hnd := hB.2.2.2.1
  have e22 : adM (abM (nmM m (m 125 30) (m 125 31)) (nmI m (m 125 30) (m 125 31)) s) 125 22 = m 125 22 := by rw [adM_o (by omega), c1 _ _ (by omega)]
  refine ⟨fun c j h => ?_, ?_, ?_, ?_, ⟨?_, Nat.zero_le _, ?_, m 125 22, by omega, ?_, trivial⟩, fun x u z => hX x u (a5 x u z), fun q => ?_, fun q => ?_⟩
  · rw [adM_o (SA_tok h), c1 c j (AB_SA h)]
  · rw [adM_o (by omega), c1 _ _ (by omega)]
  · rw [adM_o (by omega), c2]
  · rw [e22]; omega
  · show nX _ (adM (abM (nmM m (m 125 30) (m 125 31)) (nmI m (m 125 30) (m 125 31)) s) 135 (m 125 18)) (tW t n i)
    rw [adM_o (by omega), c3]
    exact hX _ _ a1
  · rw [adM_o (by omega), c4]
    rfl
  · rw [e22]
    show m 125 22 + ((0 : Nat) : Int) ≤ m 125 22
    omega
  · obtain ⟨q1, q2, q3⟩ := c5 q
    rw [adM_o (by omega), adM_o (by omega), adM_o (by omega)]
    exact ⟨q1, q2, q3⟩
  · obtain ⟨q1, q2, q3, q4, q5⟩ := c6 q
    rw [adM_o (by omega), adM_o (by omega), adM_o (by omega), adM_o (by omega), adM_o (by omega)]
    exact ⟨q1, q2, q3, q4, q5⟩
/-- an atom with parts that was begun, and its parts read -/
theorem AP_parts {m g m3 : PM} {s v what : Int} {at_ : Atm} {dd : Bool} (hl4 : at_.2.length ≤ 4) (h34 : 0 ≤ m 125 34) (hnd : 0 ≤ m 125 22) (hA0 : 0 ≤ m 125 18) (hab : AB (adM m) g v s) (hX : ∀ x u, nX m x u → nX (adM g) x u) (hv : if dd then v = -1 else nX (adM g) v at_.1)
    (hs : ∀ c j, ¬ SPl (m 125 22) (m 125 34 + 1) (m 125 18) 136 137 c j → m3 c j = adM (m_within g what (m 125 18)) c j) (e34 : m3 125 34 = m 125 34 + 1 - 1) (e22 : m3 125 22 = m 125 22 + (at_.2.flatten.length : Int)) (e137 : m3 137 (m 125 18) = at_.2.length) (hP : PsR (TmR 11 m3) m3 136 (m 125 18) 0 (m 125 22) at_.2) (hX3 : ∀ x u, nX (adM (m_within g what (m 125 18))) x u → nX m3 x u) : AP m m3 at_ s dd := by
  obtain ⟨c1, c2, c3, c4, c5, c6⟩ := hab
  have z12 : adM m 125 12 = m 125 12 := adM_o (by omega)
  have z15 : adM m 125 15 = m 125 15 := adM_o (by omega)
  have z18 : adM m 125 18 = m 125 18 := adM_o (by omega)
  have z132 : adM m 132 (m 125 12) = m 132 (m 125 12) := adM_o (by omega)
  have z131 : adM m 131 (m 125 12 - 1) = m 131 (m 125 12 - 1) := adM_o (by omega)
  rw [z12, z15, z18] at c1
  rw [z12, z15, z18, z131] at c6
  rw [z12, z15, z18, z132] at c5
  rw [z18] at c2 c3 c4
  have g34 : g 125 34 = m 125 34 := by rw [c1 _ _ (by omega), adM_o (by omega)]
  have w1 : ∀ c j, ¬ (((c = 143 ∨ c = 144 ∨ c = 145) ∧ j = m 125 34) ∨ (c = 125 ∧ (j = 34 ∨ j = 28 ∨ j = 29 ∨ j = 30 ∨ j = 31))) → adM (m_within g what (m 125 18)) c j = g c j := by
    intro c j q
    rw [adM_o (by omega), within_eq g34, up_o (by omega), up_o (by omega), up_o (by omega), up_o (by omega)]
  have hXg : ∀ x u, nX (adM g) x u → nX m3 x u := fun x u z => hX3 x u (nX_cg (by rw [w1 _ _ (by omega), adM_o (by omega)]) (fun j => by rw [w1 _ _ (by omega), adM_o (by omega)]) (fun j => by rw [w1 _ _ (by omega), adM_o (by omega)]) z)
  have s0 : ∀ c j, ¬ SPl (m 125 22) (m 125 34 + 1) (m 125 18) 136 137 c j → ¬ (((c = 143 ∨ c = 144 ∨ c = 145) ∧ j = m 125 34) ∨ (c = 125 ∧ (j = 34 ∨ j = 28 ∨ j = 29 ∨ j = 30 ∨ j = 31))) → m3 c j = g c j := fun c j q1 q2 => by rw [hs c j q1, w1 c j q2]
  refine ⟨fun c j h => ?_, by rw [e34]; omega, ?_, by rw [e22]; omega, ⟨?_, hl4, e137, m 125 22, hnd, by rw [e22]; omega, hP⟩, fun x u z => hXg x u (hX x u z), fun q => ?_, fun q => ?_⟩
  · have h' : ¬ SPl (m 125 22) (m 125 34 + 1) (m 125 18) 136 137 c j := SPl_SA (by omega) (by
      have e : m 125 34 + 1 - 1 = m 125 34 := by omega
      rw [e]
      exact h)
    rw [s0 c j h' ?_, c1 c j (AB_SA h), adM_o (SA_tok h)]
    rintro (⟨z1, z2⟩ | ⟨z1, z2⟩)
    · exact h (Or.inr (Or.inr (Or.inr (Or.inr (Or.inr (Or.inr (Or.inl ⟨z1, by omega⟩)))))))
    · exact h (Or.inl ⟨z1, by omega⟩)
  · rw [s0 _ _ (by unfold SPl; omega) (by omega), c2]
  · rw [s0 135 _ (by unfold SPl; omega) (by omega), c3]
    cases dd with
    | true => exact hv
    | false => exact hXg _ _ hv
  · obtain ⟨q1, q2, q3⟩ := c5 q
    rw [s0 131 _ (by unfold SPl; omega) (by omega), s0 125 15 (by unfold SPl; omega) (by omega), s0 132 _ (by unfold SPl; omega) (by omega)]
    exact ⟨q1, q2, q3⟩
  · obtain ⟨q1, q2, q3, q4, q5⟩ := c6 q
    rw [s0 133 _ (by unfold SPl; omega) (by omega), s0 134 _ (by unfold SPl; omega) (by omega), s0 125 15 (by unfold SPl; omega) (by omega), s0 132 _ (by unfold SPl; omega) (by omega), s0 131 _ (by unfold SPl; omega) (by omega)]
    exact ⟨q1, q2, q3, q4, q5⟩
end SIA
