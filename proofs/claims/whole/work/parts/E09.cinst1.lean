/-! ===== the class's terms without variables; install: the nodes' terms ===== -/
theorem vmC_g : ∀ cs : List Cd, vmC cs = 0 ↔ gnd cs := by
  intro cs
  induction cs with
  | nil => exact ⟨fun _ c hc => absurd hc List.not_mem_nil, fun _ => rfl⟩
  | cons c r ih =>
    show (if 5 ≤ c.1 then 2 ^ (c.1 - 5) else 0) ||| vmC r = 0 ↔ _
    rw [Nat.or_eq_zero_iff, ih]
    constructor
    · rintro ⟨h1, h2⟩ c' hc
      rcases List.mem_cons.mp hc with e | hc
      · rw [e]
        by_cases y : 5 ≤ c.1
        · rw [if_pos y] at h1
          have := Nat.one_le_two_pow (n := c.1 - 5)
          omega
        · omega
      · exact h2 c' hc
    · intro h
      refine ⟨?_, fun c' hc => h c' (List.mem_cons_of_mem _ hc)⟩
      have := h c List.mem_cons_self
      rw [if_neg (by omega)]
theorem gnd_part {ps : List (List Cd)} (h : gnd ps.flatten) : ∀ p, p ∈ ps → gnd p := fun p hp c hc => h c (List.mem_flatten.mpr ⟨p, hp, hc⟩)
section CIN
variable {X : Int → List Int → Prop} {s : Nat}
/-- a node's term is one, if it has no variables -/
theorem TcR_gf (hX : XP X) {m : PM} : ∀ (f f' : Nat) (k : Int) (cs cs' : List Cd), TcR X s f m k cs → TcR X s f' m k cs' → gnd cs → cs = cs' := by
  intro f
  induction f with
  | zero => intro f' k cs cs' h; exact absurd h (fun z => z)
  | succ f ih =>
    intro f' k cs cs' h h' hg
    cases f' with
    | zero => exact absurd h' (fun z => z)
    | succ f' =>
      cases cs with
      | nil => exact absurd h (fun z => z)
      | cons c rest =>
        cases cs' with
        | nil => exact absurd h' (fun z => z)
        | cons c' rest' =>
          obtain ⟨a, w⟩ := c
          obtain ⟨a', w'⟩ := c'
          unfold TcR at h h'
          simp only at h h'
          obtain ⟨_, _, h3⟩ := h
          obtain ⟨_, _, g3⟩ := h'
          have ha : ¬ 5 ≤ a := by
            have := hg (a, w) List.mem_cons_self
            show ¬ 5 ≤ (a, w).1
            omega
          rw [if_neg ha] at h3
          obtain ⟨ps, p1, p2, p3, p4, p5⟩ := h3
          have hl := (hX.1 _ _ p3).1
          by_cases ha' : 5 ≤ a'
          · rw [if_pos ha'] at g3
            omega
          · rw [if_neg ha'] at g3
            obtain ⟨qs, q1, q2, q3, q4, q5⟩ := g3
            have ea : a = a' := by omega
            have ew : w = w' := hX.2.1 _ _ _ p3 q3
            have hgp : gnd ps.flatten := fun c hc => hg c (List.mem_cons_of_mem _ (by rw [← p2]; exact hc))
            have ep : ps = qs := ext_gD2 (by omega) fun j hj => by
              obtain ⟨x, x1, x2, x3, x4, _⟩ := PcR_at ps 0 _ p5 j hj
              obtain ⟨y, y1, y2, y3, y4, _⟩ := PcR_at qs 0 _ q5 j (by omega)
              have exy : x = y := x1.symm.trans y1
              rw [← exy] at y4
              refine ih f' x _ _ x4 y4 (gnd_part hgp _ ?_)
              rw [List.getD_eq_getElem?_getD, List.getElem?_eq_getElem hj]
              exact List.getElem_mem hj
            rw [ea, ew, ← p2, ← q2, ep]
theorem TcR_vm {m : PM} {f : Nat} {k : Int} {cs : List Cd} (h : TcR X s f m k cs) : m (s + 10) k = (vmC cs : Int) := by
  cases f with
  | zero => exact absurd h (fun z => z)
  | succ f =>
    cases cs with
    | nil => exact absurd h (fun z => z)
    | cons c rest => exact h.1
theorem TcR_ln {m : PM} {f : Nat} {k : Int} {cs : List Cd} (h : TcR X s f m k cs) : 1 ≤ cs.length := by
  cases f with
  | zero => exact absurd h (fun z => z)
  | succ f =>
    cases cs with
    | nil => exact absurd h (fun z => z)
    | cons c rest => rw [List.length_cons]; omega
theorem NdC_Tc {m : PM} {f : Nat} {k : Int} {w : List Int} {ps : List (List Cd)} (h : NdC X s f m k (fun x => X x w) ps) (h5 : ¬ 5 ≤ ps.length) : TcR X s (f + 1) m k ((ps.length, w) :: ps.flatten) := by
  obtain ⟨p1, p2, p3, p4, p5, p6⟩ := h
  refine ⟨?_, p4, ?_⟩
  · rw [p3]
    congr 1
    show vmC ps.flatten = (if 5 ≤ ps.length then 2 ^ (ps.length - 5) else 0) ||| vmC ps.flatten
    rw [if_neg h5, Nat.zero_or]
  · rw [if_neg h5]
    exact ⟨ps, rfl, rfl, p1, p2, p6⟩
theorem CtT_fr {q N S T : Nat} {m m' : PM} (k : ∀ c j, (q ≤ c ∧ c ≤ q + 7) ∨ (c = 84 ∧ j = 9) → m' c j = m c j) (h : CtT X q N S m T) : CtT X q N S m' T := by
  have e0 : m' q = m q := funext fun j => k _ _ (by omega)
  have e1 : m' (q + 1) = m (q + 1) := funext fun j => k _ _ (by omega)
  have e2 : m' (q + 2) = m (q + 2) := funext fun j => k _ _ (by omega)
  have e4 : m' (q + 4) = m (q + 4) := funext fun j => k _ _ (by omega)
  have e5 : m' (q + 5) = m (q + 5) := funext fun j => k _ _ (by omega)
  have e7 : m' (q + 7) = m (q + 7) := funext fun j => k _ _ (by omega)
  have e9 : m' 84 9 = m 84 9 := k _ _ (by omega)
  refine CtT_cg (P := 0) (Nat.le_refl _) h ?_ (fun c j z => k c j (by omega))
  unfold CtI
  rw [e0, e1, e2, e4, e5, e7, e9]
  exact h.1
/-- the terms of the first n nodes that have no variables -/
def GrI (X : Int → List Int → Prop) (q s : Nat) (m : PM) (T n : Nat) : Prop := ∀ k : Nat, k < n → ∀ cs, TcR X s 11 m k cs → gnd cs → ∃ u : Nat, m 81 k = (u : Int) ∧ u < T ∧ Cg X q m u cs
/-- what install writes, to its loop's end -/
abbrev WIn (q : Nat) (c : Nat) (j : Int) : Prop := c = 93 ∨ c = 81 ∨ (q ≤ c ∧ c ≤ q + 7) ∨ (c = 84 ∧ j = 9)
theorem nm_len {m : PM} {a c : Nat} (h : NmC m a c) {x : Int} {w : List Int} (hx : cX m a c x w) : m (a + 3) (x + 1) - m (a + 3) x = (w.length : Int) := by
  obtain ⟨x0, x1, e⟩ := hx
  have hm := h.1.1.2.2.2.1 x.toNat (by omega)
  have ex : ((x.toNat : Nat) : Int) = x := by omega
  rw [ex] at hm
  rw [← e]
  unfold cn
  rw [sl_len, ex]
  omega
end CIN
section CIL
variable {d : Nat} {μ : am_Mem} {l : PM} {Q : Option Value ⊕ Nat → am_Mem → Prop} {q N P S s : Nat}
/-- a node's parts are laid into the row -/
theorem in_54 {m : PM} {i n : Nat} (H : CS μ) (TS_ : TS μ q N P S) (hq : TQ q N P S) (hs : s = 22 ∨ s = 42) (h2 : am_F μ 70 2 = s) (hi : i < 1024) (hn : n ≤ 4) (e7 : m (s + 7) i = (n : Int)) (hk : ∀ j : Nat, j < n → 0 ≤ m (s + 8) (4 * (i : Int) + j) ∧ m (s + 8) (4 * (i : Int) + j) < 1024)
    (hd : ∀ m1 : PM, (∀ c j, ¬ c = 93 → m1 c j = m c j) → (∀ j : Nat, j < n → m1 93 j = m 81 (m (s + 8) (4 * (i : Int) + j))) → ∃ (P : Int32 → am_Mem → Prop) (X : Nat → am_Mem → Prop), Wp (d + 2) 91 (0, [some (.ref 84), some (.int (zI (m (s + 6) i))), some (.int (zI (n : Int))), none, none, none, none, none], [], sA μ m1 l) (pI P X) ∧ (∀ x μ', P x μ' → Wp (d + 3) 33 (130, [some (.ref 70), some (.ref s), some (.int (zI (i : Int))), some (.int (zI (n : Int)))], [.int x, .int (zI (i : Int)), .ref 81], μ') Q) ∧ ∀ x μ', X x μ' → Q (.inr x) μ') : ∀ (f j : Nat) (m1 : PM), j + f = n → (∀ c j, ¬ c = 93 → m1 c j = m c j) → (∀ k : Nat, k < j → m1 93 k = m 81 (m (s + 8) (4 * (i : Int) + k))) → Wp (d + 3) 33 (54, [some (.ref 70), some (.ref s), some (.int (zI (i : Int))), some (.int (zI (j : Int)))], [], sA μ m1 l) Q := by
  intro f
  induction f with
  | zero =>
    intro j m1 hj g1 g2
    have ej : j = n := by omega
    have e7' : m1 (s + 7) i = (n : Int) := by rw [g1 _ _ (by omega)]; exact e7
    refine K33_54 H TS_ hq hs h2 ⟨⟨by omega, by omega⟩, ⟨by omega, by omega⟩, by rw [e7']; exact ⟨by omega, by omega⟩, fun _ => ?_, fun z => by omega⟩
    rw [e7', g1 (s + 6) _ (by omega), ej]
    rw [ej] at g2
    exact hd m1 g1 g2
  | succ f ih =>
    intro j m1 hj g1 g2
    have hkj := hk j (by omega)
    have e7' : m1 (s + 7) i = (n : Int) := by rw [g1 _ _ (by omega)]; exact e7
    have e8 : m1 (s + 8) (4 * (i : Int) + j) = m (s + 8) (4 * (i : Int) + j) := g1 _ _ (by omega)
    refine K33_54 H TS_ hq hs h2 ⟨⟨by omega, by omega⟩, ⟨by omega, by omega⟩, by rw [e7']; exact ⟨by omega, by omega⟩, fun z => by omega, fun _ => ⟨⟨by omega, by omega⟩, by rw [e8]; exact hkj, ⟨by omega, by omega⟩, ?_⟩⟩
    rw [e8, g1 81 _ (by omega)]
    rintro m2 e2
    refine ih (j + 1) m2 (by omega) (fun c k z => by rw [e2, up_c z]; exact g1 c k z) (fun k hk => ?_)
    by_cases w : k = j
    · rw [w, e2, up_s]
    · rw [e2, up_i (by omega)]
      exact g2 k (by omega)
/-- the nodes' terms -/
theorem in_29 {m0 : PM} {c : Nat} {n : Nat} (H : CS μ) (TS_ : TS μ q N P S) (hq : TQ q N P S) (hs : s = 22 ∨ s = 42) (h2 : am_F μ 70 2 = s) (h0 : am_F μ 84 0 = s + 1) (hN : NmC m0 (s + 1) c) (hn : n ≤ 1000) (e6 : m0 s 6 = (n : Int)) (hcv : CovC (cX m0 (s + 1) c) s m0 0 (n : Int))
    (hd : ∀ (m : PM) (T : Nat) (o3 : Option Value), CtT (cX m0 (s + 1) c) q N S m T → T ≤ n → GrI (cX m0 (s + 1) c) q s m T n → (∀ c j, ¬ WIn q c j → m c j = m0 c j) → Wp (d + 3) 33 (29, [some (.ref 70), some (.ref s), some (.int (zI (n : Int))), o3], [], sA μ m l) Q) : ∀ (f i T : Nat) (m : PM) (o3 : Option Value), i + f = n → CtT (cX m0 (s + 1) c) q N S m T → T ≤ i → GrI (cX m0 (s + 1) c) q s m T i → (∀ c j, ¬ WIn q c j → m c j = m0 c j) → Wp (d + 3) 33 (29, [some (.ref 70), some (.ref s), some (.int (zI (i : Int))), o3], [], sA μ m l) Q := by
  obtain ⟨hX, hX2, _⟩ := NmC_X hN
  intro f
  induction f with
  | zero =>
    intro i T m o3 hi hT hTi hG fr
    have ei : i = n := by omega
    rw [ei] at hTi hG ⊢
    exact hd m T o3 hT hTi hG fr
  | succ f ih =>
    intro i T m o3 hi hT hTi hG fr
    have hsh : ∀ c j, s ≤ c → c ≤ s + 19 → m c j = m0 c j := fun c j y1 y2 => fr c j (by omega)
    have e6' : m s 6 = (n : Int) := by rw [hsh _ _ (by omega) (by omega)]; exact e6
    have TcT : ∀ {m' : PM} {k : Int} {cs : List Cd}, (∀ c j, ¬ WIn q c j → m' c j = m0 c j) → TcR (cX m0 (s + 1) c) s 11 m' k cs → TcR (cX m0 (s + 1) c) s 11 m0 k cs := fun {m' k cs} fr' h => TcR_cg (fun _ _ z => z) 11 k cs (fun i _ _ => ⟨(fr' _ _ (by omega)).symm, (fr' _ _ (by omega)).symm, (fr' _ _ (by omega)).symm, (fr' _ _ (by omega)).symm⟩) (fun i _ _ => (fr' _ _ (by omega)).symm) h
    have TcT' : ∀ {m' : PM} {k : Int} {cs : List Cd}, (∀ c j, ¬ WIn q c j → m' c j = m0 c j) → TcR (cX m0 (s + 1) c) s 11 m0 k cs → TcR (cX m0 (s + 1) c) s 11 m' k cs := fun {m' k cs} fr' h => TcR_cg (fun _ _ z => z) 11 k cs (fun i _ _ => ⟨fr' _ _ (by omega), fr' _ _ (by omega), fr' _ _ (by omega), fr' _ _ (by omega)⟩) (fun i _ _ => fr' _ _ (by omega)) h
    have hnone : (¬ ∃ cs, TcR (cX m0 (s + 1) c) s 11 m0 (i : Int) cs ∧ gnd cs) → GrI (cX m0 (s + 1) c) q s m T (i + 1) := fun hno k hk cs hc hg => by
      by_cases e : k = i
      · rw [e] at hc
        exact absurd ⟨cs, TcT fr hc, hg⟩ hno
      · exact hG k (by omega) cs hc hg
    have skip : (-2147483648 ≤ m0 (s + 10) (i : Int) ∧ m0 (s + 10) (i : Int) ≤ 2147483647) → ¬ m0 (s + 10) (i : Int) = 0 → Wp (d + 3) 33 (29, [some (.ref 70), some (.ref s), some (.int (zI (i : Int))), o3], [], sA μ m l) Q := fun hr hz => by
      have ev : m (s + 10) (i : Int) = m0 (s + 10) (i : Int) := hsh _ _ (by omega) (by omega)
      refine K33_29 H TS_ hq hs h2 ⟨⟨by omega, by omega⟩, ⟨by omega, by omega⟩, fun z => by omega, fun _ => ⟨⟨by omega, by omega⟩, by rw [ev]; exact hr, fun _ => ?_, fun z => absurd (by rw [ev]; exact hz) z⟩⟩
      refine ih (i + 1) T m o3 (by omega) hT (by omega) (hnone ?_) fr
      rintro ⟨cs, hc, hg⟩
      exact hz (by rw [TcR_vm hc, (vmC_g cs).mpr hg]; rfl)
    rcases hcv (i : Int) (by omega) (by omega) with ⟨_, v, hv, ev⟩ | ⟨w, ps, ⟨p0, pv⟩, hnd⟩
    · have b1 := Nat.one_le_two_pow (n := v)
      have b2 : 2 ^ v ≤ 2 ^ 7 := Nat.pow_le_pow_right (by decide) (by omega)
      have b3 : (2 : Nat) ^ 7 = 128 := by decide
      exact skip (by rw [ev]; omega) (by rw [ev]; omega)
    · obtain ⟨p1, p2, p3, p4, p5, p6⟩ := id hnd
      have hlt := vmC_lt ps.flatten pv
      by_cases hg : gnd ps.flatten
      · have ev : m (s + 10) (i : Int) = 0 := by rw [hsh _ _ (by omega) (by omega), p3, (vmC_g _).mpr hg]; rfl
        have kid : ∀ j : Nat, j < ps.length → ∃ x : Nat, m0 (s + 8) (4 * (i : Int) + j) = (x : Int) ∧ x < i ∧ TcR (cX m0 (s + 1) c) s 11 m0 (x : Int) (ps.getD j []) := fun j hj => by
          obtain ⟨x, x1, x2, x3, x4, _⟩ := PcR_at ps 0 _ p6 j hj
          have x5 := TcR_ln x4
          rw [show ((0 + j : Nat) : Int) = (j : Int) by omega] at x1
          refine ⟨x.toNat, by rw [x1]; omega, by omega, ?_⟩
          rw [show ((x.toNat : Nat) : Int) = x by omega]
          exact x4
        have e8 : ∀ j : Nat, j < ps.length → m (s + 8) (4 * (i : Int) + j) = m0 (s + 8) (4 * (i : Int) + j) := fun j _ => hsh _ _ (by omega) (by omega)
        refine K33_29 H TS_ hq hs h2 ⟨⟨by omega, by omega⟩, ⟨by omega, by omega⟩, fun z => by omega, fun _ => ⟨⟨by omega, by omega⟩, by rw [ev]; exact ⟨by decide, by decide⟩, fun z => absurd ev z, fun _ => ?_⟩⟩
        refine in_54 (m := m) (i := i) (n := ps.length) H TS_ hq hs h2 (by omega) p5 (by rw [hsh _ _ (by omega) (by omega)]; exact p2) (fun j hj => ?_) (fun m1 g1 g2 => ?_) ps.length 0 m (by omega) (fun _ _ _ => rfl) (fun k hk => absurd hk (Nat.not_lt_zero k))
        · obtain ⟨x, x1, x2, _⟩ := kid j hj
          rw [e8 j hj, x1]
          exact ⟨by omega, by omega⟩
        · have hT1 : CtT (cX m0 (s + 1) c) q N S m1 T := CtT_fr (fun c j z => g1 c j (by omega)) hT
          have e6l : m (s + 6) (i : Int) = m0 (s + 6) (i : Int) := hsh _ _ (by omega) (by omega)
          have hnl := nm_len hN p1
          refine ⟨fun x μ' => ∃ (m2 : PM) (T2 t : Nat), x = zI (t : Int) ∧ μ' = sA μ m2 l ∧ T ≤ T2 ∧ T2 ≤ T + 1 ∧ t < T2 ∧ CtT (cX m0 (s + 1) c) q N S m2 T2 ∧ Cg (cX m0 (s + 1) c) q m2 t ((ps.length, w) :: ps.flatten) ∧ (∀ c j, ¬ WCt q T c j → m2 c j = m1 c j), noX, ?_, ?_, fun _ _ z => z.elim⟩
          · rw [e6l]
            refine k_tmk (a := s + 1) H TS_ hq (by omega) h0 hX hT1 (by omega) p1 (hX2 _ _ p1) ?_ p5 (fun j hj => ?_) (fun m2 T2 t y1 y2 y3 y4 y5 y6 => ⟨m2, T2, t, rfl, rfl, y1, y2, y3, y4, y5, y6⟩)
            · rw [g1 _ _ (by omega), g1 _ _ (by omega), fr _ _ (by omega), fr _ _ (by omega)]
              exact hnl
            · obtain ⟨x, x1, x2, x3⟩ := kid j hj
              obtain ⟨u, u1, u2, u3⟩ := hG x x2 _ (TcT' fr x3) (gnd_part hg _ (by rw [List.getD_eq_getElem?_getD, List.getElem?_eq_getElem hj]; exact List.getElem_mem hj))
              refine ⟨u, by rw [g2 j hj, e8 j hj, x1]; exact u1, u2, ?_⟩
              exact CgR_cg (T := T) (fun t ht => ⟨g1 _ _ (by omega), g1 _ _ (by omega), fun k _ => g1 _ _ (by omega)⟩) _ u _ u2 u3
          · rintro x μ' ⟨m2, T2, t, rfl, rfl, y1, y2, y3, y4, y5, y6⟩
            refine K33_130 H TS_ hq hs h2 ⟨⟨by omega, by omega⟩, ?_⟩
            rintro m3 e3
            have f3 : ∀ c j, ¬ (c = 81 ∧ j = (i : Int)) → m3 c j = m2 c j := fun c j z => by rw [e3]; exact up_o z
            have f31 : ∀ c j, ¬ (WCt q T c j ∨ c = 93 ∨ (c = 81 ∧ j = (i : Int))) → m3 c j = m c j := fun c j z => by rw [f3 c j (by omega), y6 c j (by omega), g1 c j (by omega)]
            have fr3 : ∀ c j, ¬ WIn q c j → m3 c j = m0 c j := fun c j z => by rw [f31 c j (by omega)]; exact fr c j z
            refine ih (i + 1) T2 m3 _ (by omega) (CtT_fr (fun c j z => f3 c j (by omega)) y4) (by omega) (fun k hk cs hc hgc => ?_) fr3
            by_cases e : k = i
            · have h12 := NdC_Tc hnd (by omega)
              rw [e] at hc ⊢
              have ecs := TcR_gf hX 11 12 _ _ _ (TcT fr3 hc) h12 hgc
              refine ⟨t, by rw [e3, up_s], y3, ?_⟩
              rw [ecs]
              exact CgR_cg (T := T2) (fun t ht => ⟨f3 _ _ (by omega), f3 _ _ (by omega), fun k _ => f3 _ _ (by omega)⟩) _ t _ y3 y5
            · obtain ⟨u, u1, u2, u3⟩ := hG k (by omega) cs (TcT' fr (TcT fr3 hc)) hgc
              refine ⟨u, by rw [f31 _ _ (by omega)]; exact u1, by omega, ?_⟩
              exact CgR_cg (T := T) (fun t ht => ⟨f31 _ _ (by omega), f31 _ _ (by omega), fun k _ => f31 _ _ (by omega)⟩) _ u _ u2 u3
      · refine skip (by rw [p3]; omega) (fun z => hg ((vmC_g _).mp ?_))
        rw [p3] at z
        omega
end CIL
