/-! ===== read, of both: what a faulty read leaves ===== -/
theorem nmL_nX {m m' : PM} (h0 : 0 ≤ m 125 9) (h0' : 0 ≤ m' 125 9) (e : nmL m' = nmL m) : m' 125 9 = m 125 9 ∧ (∀ k : Nat, (k : Int) < m 125 9 → nmR m' k = nmR m k) ∧ ∀ x w, nX m x w → nX m' x w := by
  have el : (nmL m').length = (nmL m).length := by rw [e]
  unfold nmL at el
  rw [List.length_map, List.length_range, List.length_map, List.length_range] at el
  have e9 : m' 125 9 = m 125 9 := by omega
  have gt : ∀ (m : PM) (k : Nat), 0 ≤ m 125 9 → (k : Int) < m 125 9 → (nmL m).getD k [] = nmR m k := fun m k h hk => by
    unfold nmL
    rw [List.getD_eq_getElem?_getD, List.getElem?_map, List.getElem?_range (by omega)]
    rfl
  have key : ∀ k : Nat, (k : Int) < m 125 9 → nmR m' k = nmR m k := fun k hk => by
    rw [← gt m' k h0' (by omega), e, gt m k h0 hk]
  refine ⟨e9, key, fun x w hx => ?_⟩
  obtain ⟨a, b, c⟩ := hx
  exact ⟨a, by omega, by rw [key x.toNat (by omega)]; exact c⟩
theorem GdT_x {m m' : PM} {p : List Cd} (hX : ∀ x w, nX m x w → nX m' x w) (h : GdT m p) : GdT m' p := ⟨h.1, h.2.1, h.2.2.1, fun c hc => by
  obtain ⟨x, hx⟩ := h.2.2.2 c hc
  exact ⟨x, hX _ _ hx⟩⟩
theorem TgR_x {m m' : PM} (hX : ∀ x w, nX m x w → nX m' x w) (k : ∀ c j, (149 ≤ c ∧ c ≤ 151) → m' c j = m c j) : ∀ (f t : Nat) (cs : List Cd), TgR f m t cs → TgR f m' t cs := by
  intro f
  induction f with
  | zero => intro t cs h; exact absurd h (fun z => z)
  | succ f ih =>
    intro t cs h
    obtain ⟨w, ps, h1, h2, h3, h4, h5⟩ := h
    refine ⟨w, ps, h1, h2, by rw [k 149 _ (by omega)]; exact hX _ _ h3, by rw [k 150 _ (by omega)]; exact h4, fun j hj => ?_⟩
    obtain ⟨u, u1, u2, u3⟩ := h5 j hj
    exact ⟨u, by rw [k 151 _ (by omega)]; exact u1, u2, ih u _ u3⟩
/-- what a faulty read keeps -/
abbrev RdK (c : Nat) (j : Int) : Prop := (149 ≤ c ∧ c ≤ 184) ∨ c = 127 ∨ (c = 125 ∧ (j = 4 ∨ j = 6 ∨ j = 42 ∨ j = 48 ∨ j = 70 ∨ j = 72 ∨ j = 75 ∨ j = 81 ∨ j = 82 ∨ j = 89 ∨ j = 90))
theorem rdk_1 {c : Nat} {j : Int} (z : RdK c j) : ¬ RdR c j := fun y => by
  rcases y with y | y | y | y <;> rcases z with z | z | z <;> omega
section LRP
variable {W : Int → Nat} {rs : List Rul} {L : List (List Cd)} {B B' : Nat} {m m' : PM} {st : Option (List (List Cd))} {xp : Option (List (List (List Cd)) × List (List Nat))}
theorem StR_x {i : Int} {s : List (List Cd)} (hX : ∀ x w, nX m x w → nX m' x w) (k : ∀ c j, c = 171 ∨ c = 172 → m' c j = m c j) (h : StR m i s) : StR m' i s := by
  obtain ⟨h1, h2, h3, h4⟩ := h
  refine ⟨(k _ _ (by omega)).trans h1, h2, h3, fun q hq => ?_⟩
  obtain ⟨a1, a2, a3⟩ := h4 q hq
  exact ⟨fun j hj => (k _ _ (by omega)).trans (a1 j hj), GdT_x hX a2, a3⟩
theorem WkR_x {T : Nat} {S : List Atm} (k : ∀ c j, RdK c j → m' c j = m c j) (hv : RV m' rs) (e9 : m' 125 9 = m 125 9) (key : ∀ k : Nat, (k : Int) < m 125 9 → nmR m' k = nmR m k) (hX : ∀ x w, nX m x w → nX m' x w) (h : WkR W rs m T S) : WkR W rs m' T S := by
  obtain ⟨h1, h2, h3, h4, h5, h6, h7⟩ := h
  have n1 : NmW m := h1.2.1
  have n2 : NmW m' := hv.2.1
  have r149 : ∀ t : Nat, t < T → m' 149 t = m 149 t := fun t _ => k _ _ (by omega)
  have r150 : ∀ t : Nat, t < T → m' 150 t = m 150 t := fun t _ => k _ _ (by omega)
  have r151 : ∀ i : Int, 0 ≤ i → i < 4 * (T : Int) → m' 151 i = m 151 i := fun i _ _ => k _ _ (by omega)
  have i151 : ∀ i, iR (m' 151 i) := fun i => by rw [k 151 _ (by omega)]; exact h2.2.2.1 i
  refine ⟨hv, TtI_cg (k _ _ (by omega)) r149 r150 r151 i151 (fun i _ => k _ _ (by omega)) h2, TtU_cg h2 r149 r150 r151 h3, fun t ht => ?_, HdI_cg e9 (k _ _ (by omega)) (fun c j a b => k c j (by omega)) h5, fun i hi => ?_, fun i => by rw [k 165 _ (by omega)]; exact h7 i⟩
  · obtain ⟨l1, l2⟩ := h4 t ht
    have t0 := (h2.2.2.2.1 t ht).1.1
    have e130 : m' 130 (m 149 t) = m 130 (m 149 t) := by
      have z := congrArg List.length (key (m 149 t).toNat (by omega))
      unfold nmR at z
      rw [sl_len, sl_len, Int.toNat_of_nonneg t0] at z
      have a1 := n1.2.2 (m 149 t).toNat (by omega)
      have a2 := n2.2.2 (m 149 t).toNat (by omega)
      rw [Int.toNat_of_nonneg t0] at a1 a2
      omega
    refine ⟨by rw [r149 t ht, e9]; exact l1, ?_⟩
    rw [k 152 _ (by omega), r149 t ht, r150 t ht, e130, l2, plS_cg (m := m) (m' := m') (m 150 t).toNat (fun i _ => ⟨k _ _ (by omega), k _ _ (by omega)⟩)]
  · obtain ⟨a1, a2, a3⟩ := h6 i hi
    rw [k 154 _ (by omega)]
    refine ⟨hX _ _ a1, a2, fun q hq => ?_⟩
    obtain ⟨u, b1, b2, b3⟩ := a3 q hq
    exact ⟨u, by rw [k 155 _ (by omega)]; exact b1, b2, TgR_x hX (fun c j z => k c j (by omega)) _ u _ b3⟩
theorem RfP_rd (hB : B ≤ B') (k : ∀ c j, RdK c j → m' c j = m c j) (hv : RV m' rs) (en : nmL m' = nmL m) (h : RfP W rs L B m st xp) : RfP W rs L B' m' st xp := by
  obtain ⟨⟨g1, g2, g3, g4, g5, g6, g7, g8⟩, h2, h3, h4, h5⟩ := h
  have p1 : 0 ≤ m 125 9 := by have := g1.2.2.1.2.1; omega
  have p2 : 0 ≤ m' 125 9 := by have := hv.2.2.1.2.1; omega
  obtain ⟨e9, key, hX⟩ := nmL_nX p1 p2 en
  obtain ⟨_, _, hX'⟩ := nmL_nX p2 p1 en.symm
  refine ⟨⟨hv, fun x w hx => g2 x w (hX' x w hx), fun j => by rw [k 151 _ (by omega)]; exact g3 j, fun j => by rw [k 165 _ (by omega)]; exact g4 j, (k _ _ (by omega)).trans g5, g6, g7, fun r hr => ?_⟩, (k _ _ (by omega)).trans h2, ?_, ?_, ?_⟩
  · obtain ⟨a1, a2, a3⟩ := g8 r hr
    exact ⟨fun i hi => (k _ _ (by omega)).trans (a1 i hi), GdT_x hX a2, a3⟩
  · cases st with
    | none => exact (k 125 72 (by omega)).trans h3
    | some s => exact ⟨(k 125 72 (by omega)).trans h3.1, StR_x hX (fun c j z => k c j (by omega)) h3.2.1, h3.2.2⟩
  · rcases h4 with y | ⟨y, s, e, T, S, w1, w2, w3, w4, w5⟩
    · exact Or.inl ((k 125 75 (by omega)).trans y)
    · refine Or.inr ⟨(k 125 75 (by omega)).trans y, s, e, T, S, w1, WkR_x k hv e9 key hX w2, by omega, w4, fun r hr => ?_⟩
      obtain ⟨a1, a2, a3⟩ := w5 r hr
      refine ⟨(k _ _ (by omega)).trans a1, a2, fun q hq => ?_⟩
      obtain ⟨b1, b2, b3⟩ := a3 q hq
      exact ⟨fun j hj => (k _ _ (by omega)).trans (b1 j hj), GdT_x hX b2, b3⟩
  · cases xp with
    | none => exact (k 125 81 (by omega)).trans h5
    | some p =>
      obtain ⟨sts, nx⟩ := p
      obtain ⟨x1, x2, x3, x4, x5, x6, x7⟩ := h5
      have e182 : (fun b : Nat => m' 182 (b : Int)) = fun b : Nat => m 182 (b : Int) := funext fun b => k _ _ (by omega)
      refine ⟨(k _ _ (by omega)).trans x1, x2, (k _ _ (by omega)).trans x3, fun i hi => StR_x hX (fun c j z => k c j (by omega)) (x4 i hi), TbX_cg (fun c j z => k c j (by omega)) x5, by rw [k 125 89 (by omega), k 125 90 (by omega)]; exact x6, fun z => ?_⟩
      rw [k 125 89 (by omega)] at z
      obtain ⟨v1, v2⟩ := x7 z
      refine ⟨by rw [e182]; exact v1, fun i hi => by rw [k 182 _ (by omega)]; exact v2 i hi⟩
end LRP
/-- a role's term, in the reference's memory -/
theorem rl_gt {m : PM} {rs : List Rul} (hgo : GoS rs) (hv : RV m rs) {p : List Cd} (hp : p ∈ rlS rs) : GdT m p ∧ (tx p).length ≤ 2999 ∧ p.length ≤ 1000 := by
  rcases rlS_m rs [] hp with h | ⟨ru, hru, e1, e2⟩
  · exact absurd h List.not_mem_nil
  · obtain ⟨r, hr, er⟩ := (mem_gD rs ruD ru).mp hru
    have hck := chF_ok hgo.2.2.2.2
    obtain ⟨o1, o2, o3⟩ := role_ok (hck.1 r hr).1 (hck.1 r hr).2.1 (by rw [er]; exact e1)
    rw [er] at o1 o2 o3
    obtain ⟨cs, hcs⟩ : ∃ cs, ru.1.2 = [cs] := List.length_eq_one_iff.mp o1
    rw [hcs] at e2
    have ep : cs = p := e2
    subst ep
    have hA := (hv.1.2.2.2.2.2 r hr).1.1.2.2
    rw [er] at hA
    obtain ⟨_, b0, b2, k0, b3, b4, b5⟩ := hA
    rw [hcs] at b5
    obtain ⟨p1, p2, _⟩ := b5
    have hin : cs ∈ ru.1.2 := by rw [hcs]; exact List.mem_singleton.mpr rfl
    have hg : gnd cs := o3 cs hin
    have hw := hgo.2.2.1 ru hru cs hin
    have hne := hgo.2.2.2.1 ru hru cs hin
    have hwf := TmR_wfS 11 k0 cs p2
    refine ⟨⟨⟨_, hwf⟩, hg, hne, fun c hc => ?_⟩, ?_, hw.2⟩
    · obtain ⟨i, hi, ei⟩ := (mem_gD cs (0, []) c).mp hc
      have z := TmR_nd 11 k0 cs p2 i hi
      rw [ei] at z
      unfold NdR at z
      have h5 := hg c hc
      rw [if_neg (by omega)] at z
      exact ⟨_, z.1⟩
    · have a1 := tx_len hwf hg
      have a2 := hw.1
      have a3 := hw.2
      omega
