/-! ===== the class's model: build, whole ===== -/
theorem cA_le (r : Int → Int) (lo : Int) : ∀ n, cA r lo n ≤ n := by
  intro n
  induction n with
  | zero => exact Nat.le_refl _
  | succ n ih =>
    show cA r lo n + (if 0 < r (lo + n) then 1 else 0) ≤ n + 1
    split <;> omega
section CBW
variable {d : Nat} {μ : am_Mem} {l : PM} {Q : Option Value ⊕ Nat → am_Mem → Prop} {X : Int → List Int → Prop} {q N P S s : Nat}
theorem BdC_g {m : PM} {T : Nat} {b : Nat → Option (List Cd)} (h : BdC X q m T b) : ∀ v cs, b v = some cs → wfS (T + 1) cs ∧ gnd cs := fun v cs e => by
  obtain ⟨_, u, _, u1, u2⟩ := h v cs e
  exact ⟨wfS_mono (u + 1) (T + 1) cs (by omega) (CgR_wf _ _ _ u2), CgR_gnd _ _ _ u2⟩
/-- node i of an atom -/
theorem nd_at {m : PM} {k : Int} {Lb : Int → Prop} {ps : List (List Cd)} {Pr : List Cd → Prop} (hP : ∀ (f : Nat) (w : List Int) (qs : List (List Cd)), qs.length ≤ 4 → (∀ p, p ∈ qs → wfS f p) → Pr ((qs.length, w) :: qs.flatten) → ∀ p, p ∈ qs → Pr p) (h0 : 0 ≤ k - (ps.flatten.length : Int)) (h : NdC X s 11 m k Lb ps) (hp : ∀ p, p ∈ ps → Pr p) : ∀ i, k - (ps.flatten.length : Int) ≤ i → i < k → ∃ cs, TcR X s 11 m i cs ∧ Pr cs ∧ k - (ps.flatten.length : Int) ≤ i + 1 - (cs.length : Int) := by
  obtain ⟨_, _, _, _, _, n6⟩ := h
  intro i i0 i1
  exact PcR_co3 (lo := k - (ps.flatten.length : Int)) (B := fun i => ∃ cs, TcR X s 11 m i cs ∧ Pr cs ∧ k - (ps.flatten.length : Int) ≤ i + 1 - (cs.length : Int)) ps 0 _ (Int.le_refl _) (fun y p hp' hR hy i i0 i1 => by
    obtain ⟨cs, g1, g2, g3⟩ := TcR_all hP 11 y p (Nat.le_refl _) hR (by omega) (hp p hp') i i0 i1
    exact ⟨cs, g1, g2, by omega⟩) n6 i i0 (by omega)
theorem bdC_part {b : Nat → Option (List Cd)} {w : List Int} {ps : List (List Cd)} (h : bdC b ((ps.length, w) :: ps.flatten)) : ∀ p, p ∈ ps → bdC b p := fun p hp c hc => h c (List.mem_cons_of_mem _ (List.mem_flatten.mpr ⟨p, hp, hc⟩))
theorem bdC_vb {m : PM} {T : Nat} {b : Nat → Option (List Cd)} (hb : BdC X q m T b) {cs : List Cd} (h : bdC b cs) : vbC cs := fun c hc h5 => by
  obtain ⟨p, hp⟩ := h c hc h5
  have := (hb _ _ hp).1
  omega
theorem k_build {m0 : PM} {k n T0 : Nat} {Lb : Int → Prop} {ps : List (List Cd)} {b : Nat → Option (List Cd)} (H : CS μ) (TS_ : TS μ q N P S) (hq : TQ q N P S) (hs : s = 22 ∨ s = 42) (h2 : am_F μ 70 2 = s) (h0 : am_F μ 84 0 = s + 1) (hX : XP X) (hX2 : ∀ x w, X x w → x < 1024) (hnl : ∀ x w, X x w → m0 (s + 4) (x + 1) - m0 (s + 4) x = (w.length : Int)) (hk : k < n) (hn : n ≤ 1000) (hlow : 0 ≤ (k : Int) - (ps.flatten.length : Int)) (hnd : NdC X s 11 m0 (k : Int) Lb ps) (hT : CtT X q N S m0 T0) (hG : GrI X q s m0 T0 n) (hb : BdC X q m0 T0 b) (hbd : bdC b ps.flatten) (hroom : T0 + ps.flatten.length ≤ N)
    (hok : ∀ (m' : PM) (T' : Nat), T0 ≤ T' → T' ≤ T0 + nIn ps.flatten → CtT X q N S m' T' → (∀ j : Nat, j < ps.length → ∃ u : Nat, m' 79 (j : Int) = (u : Int) ∧ u < T' ∧ Cg X q m' u (sbC (fulB b) (ps.getD j []))) → ((∀ p, p ∈ ps → ∃ u : Nat, u < T0 ∧ Cg X q m0 u (sbC (fulB b) p)) → T' = T0) → (∀ c j, ¬ WBd q T0 c j → m' c j = m0 c j) → Q (.inl none) (sA μ m' l)) :
    Wp (d + 2) 41 (0, [some (.ref 70), some (.int (zI (k : Int))), none, none, none], [], sA μ m0 l) Q := by
  obtain ⟨n1, n2, n3, n4, n5, n6⟩ := id hnd
  obtain ⟨lo, elo⟩ : ∃ lo : Nat, (k : Int) - (ps.flatten.length : Int) = (lo : Int) := ⟨((k : Int) - (ps.flatten.length : Int)).toNat, by omega⟩
  have hgb := BdC_g hb
  have hβ : Gb (fulB b) := fulB_g hgb
  obtain ⟨g0, hg0⟩ := hβ.1
  have hbp : ∀ p, p ∈ ps → bdC b p := fun p hp c hc => hbd c (List.mem_flatten.mpr ⟨p, hp, hc⟩)
  have node : ∀ i : Int, (lo : Int) ≤ i → i < (k : Int) → ∃ cs, TcR X s 11 m0 i cs ∧ bdC b cs ∧ (lo : Int) ≤ i + 1 - (cs.length : Int) := fun i i0 i1 => by
    have z := nd_at (Pr := bdC b) (fun f w qs _ _ h => bdC_part h) hlow hnd hbp i (by omega) i1
    rw [elo] at z
    exact z
  have hNle : N ≤ 58192 := by omega
  have hs1 : s + 1 = 23 ∨ s + 1 = 43 := by omega
  /- the last loop: the atom's terms -/
  have last : ∀ (f j T : Nat) (m : PM) (o3 o4 : Option Value), j + f = ps.length → CtT X q N S m T → T0 ≤ T → T ≤ T0 + nIn ps.flatten → (∀ i : Nat, lo ≤ i → i < k → ∀ cs, TcR X s 11 m0 (i : Int) cs → bdC b cs → ∃ u : Nat, m 82 (i : Int) = (u : Int) ∧ u < T ∧ Cg X q m u (sbC (fulB b) cs)) → (T = T0 ∨ ∃ i : Nat, lo ≤ i ∧ i < k ∧ ∃ cs, TcR X s 11 m0 (i : Int) cs ∧ ¬ ∃ u : Nat, u < T0 ∧ Cg X q m0 u (sbC (fulB b) cs)) → (∀ c j, ¬ WBd q T0 c j → m c j = m0 c j) → (∀ i : Nat, i < j → ∃ u : Nat, m 79 (i : Int) = (u : Int) ∧ u < T ∧ Cg X q m u (sbC (fulB b) (ps.getD i []))) → Wp (d + 2) 41 (156, [some (.ref 70), some (.int (zI (k : Int))), some (.int (zI (j : Int))), o3, o4], [], sA μ m l) Q := by
    intro f
    induction f with
    | zero =>
      intro j T m o3 o4 hj hTm t1 t2 hmd hnew fr h79
      have e7 : m (s + 7) (k : Int) = (ps.length : Int) := by rw [fr _ _ (wb_s hq hs (by omega) (by omega))]; exact n2
      refine K41_156 H TS_ hq hs h2 ⟨⟨by omega, by omega⟩, ⟨by omega, by omega⟩, by rw [e7]; exact ⟨by omega, by omega⟩, fun _ => ?_, fun z => by rw [e7] at z; omega⟩
      refine hok m T t1 t2 hTm (fun i hi => h79 i (by omega)) (fun hall => ?_) fr
      rcases hnew with e | ⟨i, i0, i1, cs, g1, g2⟩
      · exact e
      · exfalso
        obtain ⟨cs', c1, ⟨u, u1, u2⟩, _⟩ := nd_at (Pr := fun cs => ∃ u : Nat, u < T0 ∧ Cg X q m0 u (sbC (fulB b) cs)) (fun f w qs hl hwf hu p hp => by
          obtain ⟨u, u1, u2⟩ := hu
          exact Cg_part (f := f + g0) hl (fun p hp => sbC_wf f p (fun c _ _ => hg0 _) (hwf p hp)) u1 u2 p hp) hlow hnd hall (i : Int) (by omega) (by omega)
        exact g2 ⟨u, u1, by rw [TcR_sb hX 11 11 _ _ _ g1 c1]; exact u2⟩
    | succ f ih =>
      intro j T m o3 o4 hj hTm t1 t2 hmd hnew fr h79
      have e7 : m (s + 7) (k : Int) = (ps.length : Int) := by rw [fr _ _ (wb_s hq hs (by omega) (by omega))]; exact n2
      have hjl : j < ps.length := by omega
      obtain ⟨x, x1, x2, x3, x4, _⟩ := PcR_at ps 0 _ n6 j hjl
      have x5 := TcR_ln x4
      rw [show ((0 + j : Nat) : Int) = (j : Int) by omega] at x1
      obtain ⟨xn, rfl⟩ : ∃ xn : Nat, x = (xn : Int) := ⟨x.toNat, by omega⟩
      have e8 : m (s + 8) (4 * (k : Int) + (j : Int)) = (xn : Int) := by rw [fr _ _ (wb_s hq hs (by omega) (by omega))]; exact x1
      have hpm : ps.getD j [] ∈ ps := by
        rw [List.getD_eq_getElem?_getD, List.getElem?_eq_getElem hjl]
        exact List.getElem_mem hjl
      obtain ⟨u, u1, u2, u3⟩ := hmd xn (by omega) (by omega) _ x4 (hbp _ hpm)
      refine K41_156 H TS_ hq hs h2 ⟨⟨by omega, by omega⟩, ⟨by omega, by omega⟩, by rw [e7]; exact ⟨by omega, by omega⟩, fun z => by rw [e7] at z; omega, fun _ => ⟨⟨by omega, by omega⟩, by rw [e8]; exact ⟨by omega, by omega⟩, ⟨by omega, by omega⟩, ?_⟩⟩
      rw [e8, u1]
      rintro m1 e1
      have f1 : ∀ c i, ¬ c = 79 → m1 c i = m c i := fun c i z => by rw [e1]; exact up_c z
      have cg : ∀ {t : Nat} {cs : List Cd}, t < T → Cg X q m t cs → Cg X q m1 t cs := fun {t cs} ht h => CgR_cg (T := T) (fun t _ => ⟨f1 _ _ (q_82 hq).2.2.2.1, f1 _ _ (q_82 hq).2.2.2.2.1, fun i _ => f1 _ _ (q_82 hq).2.2.2.2.2.1⟩) _ t _ ht h
      have go := ih (j + 1) T m1 o3 o4 (by omega) (CtT_fr (fun c i z => f1 c i (q_in hq z).2.1) hTm) t1 t2 (fun i i0 i1 cs c1 c2 => by
        obtain ⟨u, w1, w2, w3⟩ := hmd i i0 i1 cs c1 c2
        exact ⟨u, by rw [f1 _ _ (by decide)]; exact w1, w2, cg w2 w3⟩) hnew (fun c i z => by rw [f1 c i (fun e => z (Or.inl e))]; exact fr c i z) (fun i hi => by
        by_cases y : i = j
        · rw [y, e1, up_s]
          exact ⟨u, rfl, u2, by rw [← e1]; exact cg u2 u3⟩
        · obtain ⟨u', w1, w2, w3⟩ := h79 i (by omega)
          exact ⟨u', by rw [e1, up_i (by omega)]; exact w1, w2, cg w2 w3⟩)
      rw [show ((j + 1 : Nat) : Int) = (j : Int) + 1 by omega] at go
      exact go
  /- the nodes, one behind the other -/
  have loop : ∀ (f i T : Nat) (m : PM) (o3 o4 : Option Value), i + f = k → lo ≤ i → CtT X q N S m T → T0 ≤ T → T ≤ T0 + cA (m0 (s + 7)) (lo : Int) (i - lo) → (∀ j : Nat, lo ≤ j → j < i → ∀ cs, TcR X s 11 m0 (j : Int) cs → bdC b cs → ∃ u : Nat, m 82 (j : Int) = (u : Int) ∧ u < T ∧ Cg X q m u (sbC (fulB b) cs)) → (T = T0 ∨ ∃ j : Nat, lo ≤ j ∧ j < i ∧ ∃ cs, TcR X s 11 m0 (j : Int) cs ∧ ¬ ∃ u : Nat, u < T0 ∧ Cg X q m0 u (sbC (fulB b) cs)) → (∀ c j, ¬ WBd q T0 c j → m c j = m0 c j) → Wp (d + 2) 41 (10, [some (.ref 70), some (.int (zI (k : Int))), some (.int (zI (i : Int))), o3, o4], [], sA μ m l) Q := by
    intro f
    induction f with
    | zero =>
      intro i T m o3 o4 hi hl hTm t1 t2 hmd hnew fr
      have ei : i = k := by omega
      rw [ei] at hmd hnew t2
      refine K41_10 H TS_ hq hs h2 ⟨⟨by omega, by omega⟩, ⟨by omega, by omega⟩, fun _ => ?_, fun z => by omega⟩
      have ec : cA (m0 (s + 7)) (lo : Int) (k - lo) = nIn ps.flatten := by
        have z := PcR_cA (ar := m0 (s + 7)) ps 0 _ (fun y p _ hR => TcR_cA 11 y p hR) n6
        rw [elo] at z
        rw [← z]
        congr 1
        omega
      rw [ec] at t2
      exact last ps.length 0 T m o3 o4 (by omega) hTm t1 t2 hmd hnew fr (fun j hj => absurd hj (Nat.not_lt_zero j))
    | succ f ih =>
      intro i T m o3 o4 hi hl hTm t1 t2 hmd hnew fr
      have hik : i < k := by omega
      obtain ⟨cs, c1, c2, c3⟩ := node (i : Int) (by omega) (by omega)
      have sh : ∀ c j, s ≤ c → c ≤ s + 19 → m c j = m0 c j := fun c j y1 y2 => fr c j (wb_s hq hs y1 y2)
      have hvm : m (s + 10) (i : Int) = (vmC cs : Int) := by rw [sh _ _ (by omega) (by omega)]; exact TcR_vm c1
      have hv256 := vmC_lt cs (bdC_vb hb c2)
      have hcnt : cA (m0 (s + 7)) (lo : Int) (i + 1 - lo) = cA (m0 (s + 7)) (lo : Int) (i - lo) + if 0 < m0 (s + 7) (i : Int) then 1 else 0 := by
        rw [show i + 1 - lo = (i - lo) + 1 by omega]
        show cA (m0 (s + 7)) (lo : Int) (i - lo) + (if 0 < m0 (s + 7) ((lo : Int) + ((i - lo : Nat) : Int)) then 1 else 0) = _
        rw [show (lo : Int) + ((i - lo : Nat) : Int) = (i : Int) by omega]
      /- a node whose term is there -/
      have step : ∀ (m1 : PM) (u : Nat) (o3 o4 : Option Value), m1 = up m 82 (i : Int) (u : Int) → u < T → Cg X q m u (sbC (fulB b) cs) → Wp (d + 2) 41 (10, [some (.ref 70), some (.int (zI (k : Int))), some (.int (zI ((i : Int) + 1))), o3, o4], [], sA μ m1 l) Q := by
        intro m1 u o3 o4 e1 hu hg
        have f1 : ∀ c j, ¬ c = 82 → m1 c j = m c j := fun c j z => by rw [e1]; exact up_c z
        have cg : ∀ {t : Nat} {cs : List Cd}, t < T → Cg X q m t cs → Cg X q m1 t cs := fun {t cs} ht h => CgR_cg (T := T) (fun t _ => ⟨f1 _ _ (q_82 hq).1, f1 _ _ (q_82 hq).2.1, fun i _ => f1 _ _ (q_82 hq).2.2.1⟩) _ t _ ht h
        have go := ih (i + 1) T m1 o3 o4 (by omega) (by omega) (CtT_fr (fun c j z => f1 c j (q_in hq z).1) hTm) t1 (by rw [hcnt]; omega) (fun j j0 j1 cs' d1 d2 => by
          by_cases y : j = i
          · rw [y] at d1 ⊢
            refine ⟨u, by rw [e1, up_s], hu, ?_⟩
            rw [TcR_sb hX 11 11 _ _ _ d1 c1]
            exact cg hu hg
          · obtain ⟨u', w1, w2, w3⟩ := hmd j j0 (by omega) cs' d1 d2
            exact ⟨u', by rw [e1, up_i (by omega)]; exact w1, w2, cg w2 w3⟩) (by
          rcases hnew with e | ⟨j, j0, j1, z⟩
          · exact Or.inl e
          · exact Or.inr ⟨j, j0, by omega, z⟩) (fun c j z => by rw [f1 c j (fun e => z (Or.inr (Or.inl e)))]; exact fr c j z)
        rw [show ((i + 1 : Nat) : Int) = (i : Int) + 1 by omega] at go
        exact go
      cases cs with
      | nil => exact absurd c1 (fun z => z)
      | cons c rest =>
        obtain ⟨a, w⟩ := c
        have c1' := c1
        unfold TcR at c1'
        simp only at c1'
        obtain ⟨z1, z2, z3⟩ := c1'
        by_cases a5 : 5 ≤ a
        · /- a variable -/
          rw [if_pos a5] at z3
          obtain ⟨p, hp⟩ := c2 (a, w) List.mem_cons_self a5
          obtain ⟨v8, u, u1, u2, u3⟩ := hb _ _ hp
          have ha13 : (a, w).1 - 5 = a - 5 := rfl
          rw [ha13] at hp v8 u1
          have e6 : m (s + 6) (i : Int) = 4 - (a : Int) := by rw [sh _ _ (by omega) (by omega)]; exact z3.2.1
          have hv0 : ¬ m (s + 10) (i : Int) = 0 := by
            rw [hvm]
            intro y
            have y' : vmC ((a, w) :: rest) = 0 := by omega
            have := (vmC_g _).mp y' (a, w) List.mem_cons_self
            have : a < 5 := this
            omega
          refine K41_10 H TS_ hq hs h2 ⟨⟨by omega, by omega⟩, ⟨by omega, by omega⟩, fun z => by omega, fun _ => ⟨⟨by omega, by omega⟩, by rw [hvm]; exact ⟨by omega, by omega⟩, fun _ => ⟨by rw [e6]; exact ⟨by omega, by omega⟩, fun z => by rw [e6] at z; omega, fun _ => ⟨by rw [e6]; exact ⟨by omega, by omega⟩, ?_⟩⟩, fun z => absurd hv0 z⟩⟩
          rw [e6, show (-1 : Int) - (4 - (a : Int)) = ((a - 5 : Nat) : Int) by omega, fr 83 _ (wb_83 hq), u1]
          rintro m1 e1
          refine step m1 u _ _ e1 (by omega) ?_
          rw [z3.1, sbC_var _ a5]
          have ef : fulB b (a - 5) = p := fulB_e b _ _ hp
          rw [ef]
          exact Cg_wb hq fr u2 u3
        · rw [if_neg a5] at z3
          obtain ⟨qs, p1, p2, p3, p4, p5⟩ := z3
          have hx0 := (hX.1 _ _ p3).1
          have hx1 := hX2 _ _ p3
          have e6 : m (s + 6) (i : Int) = m0 (s + 6) (i : Int) := sh _ _ (by omega) (by omega)
          have e7 : m (s + 7) (i : Int) = (a : Int) := by rw [sh _ _ (by omega) (by omega)]; exact p4
          by_cases hv0 : vmC ((a, w) :: rest) = 0
          · /- without variables -/
            have hgd := (vmC_g _).mp hv0
            obtain ⟨u, u1, u2, u3⟩ := hG i (by omega) _ c1 hgd
            refine K41_10 H TS_ hq hs h2 ⟨⟨by omega, by omega⟩, ⟨by omega, by omega⟩, fun z => by omega, fun _ => ⟨⟨by omega, by omega⟩, by rw [hvm]; exact ⟨by omega, by omega⟩, fun z => absurd (by rw [hvm, hv0]; rfl) z, fun _ => ?_⟩⟩
            rw [fr 81 _ (wb_81 hq), u1]
            rintro m1 e1
            refine step m1 u _ _ e1 (by omega) ?_
            rw [sbC_gnd _ hgd]
            exact Cg_wb hq fr u2 u3
          · /- a name with parts -/
            have kid : ∀ j : Nat, j < qs.length → ∃ x : Nat, m0 (s + 8) (4 * (i : Int) + j) = (x : Int) ∧ x < i ∧ lo ≤ x ∧ TcR X s 11 m0 (x : Int) (qs.getD j []) ∧ bdC b (qs.getD j []) := fun j hj => by
              obtain ⟨x, x1, x2, x3, x4, _⟩ := PcR_at qs 0 _ p5 j hj
              have x5 := TcR_ln x4
              have pl : (qs.flatten.length : Int) = rest.length := by rw [p2]
              have len1 : (((a, w) :: rest : List Cd).length : Int) = rest.length + 1 := by simp
              rw [show ((0 + j : Nat) : Int) = (j : Int) by omega] at x1
              refine ⟨x.toNat, by rw [x1]; omega, by omega, by omega, ?_, ?_⟩
              · rw [show ((x.toNat : Nat) : Int) = x by omega]
                exact TcR_mono 10 11 x _ (by decide) x4
              · refine bdC_part (w := w) (ps := qs) (by rw [p1, p2]; exact c2) _ ?_
                rw [List.getD_eq_getElem?_getD, List.getElem?_eq_getElem hj]
                exact List.getElem_mem hj
            refine K41_10 H TS_ hq hs h2 ⟨⟨by omega, by omega⟩, ⟨by omega, by omega⟩, fun z => by omega, fun _ => ⟨⟨by omega, by omega⟩, by rw [hvm]; exact ⟨by omega, by omega⟩, fun _ => ⟨by rw [e6]; exact ⟨by omega, by omega⟩, fun _ => ?_, fun z => by rw [e6] at z; omega⟩, fun z => absurd (by rw [hvm]; omega) z⟩⟩
            have lay : ∀ (g j : Nat) (m1 : PM), j + g = qs.length → (∀ c i, ¬ c = 93 → m1 c i = m c i) → (∀ t : Nat, t < j → ∃ u : Nat, m1 93 (t : Int) = (u : Int) ∧ u < T ∧ Cg X q m u (sbC (fulB b) (qs.getD t []))) → Wp (d + 2) 41 (76, [some (.ref 70), some (.int (zI (k : Int))), some (.int (zI (i : Int))), some (.int (zI (m (s + 6) (i : Int)))), some (.int (zI (j : Int)))], [], sA μ m1 l) Q := by
              intro g
              induction g with
              | zero =>
                intro j m1 hj f1 h93
                have e7' : m1 (s + 7) (i : Int) = (a : Int) := by rw [f1 _ _ (by omega)]; exact e7
                refine K41_76 H TS_ hq hs h2 ⟨⟨by omega, by omega⟩, ⟨by omega, by omega⟩, by rw [e7']; exact ⟨by omega, by omega⟩, fun _ => ?_, fun z => by rw [e7'] at z; omega⟩
                rw [e7', e6]
                have hT1 : CtT X q N S m1 T := CtT_fr (fun c i z => f1 c i (q_in hq z).2.2) hTm
                have cg1 : ∀ {t : Nat} {cs : List Cd}, t < T → Cg X q m t cs → Cg X q m1 t cs := fun {t cs} ht h => CgR_cg (T := T) (fun t _ => ⟨f1 _ _ (q_82 hq).2.2.2.2.2.2.1, f1 _ _ (q_82 hq).2.2.2.2.2.2.2.1, fun i _ => f1 _ _ (q_82 hq).2.2.2.2.2.2.2.2⟩) _ t _ ht h
                have eml : (qs.map (sbC (fulB b))).length = a := by rw [List.length_map]; exact p1
                have hcA := cA_le (m0 (s + 7)) (lo : Int) (i - lo)
                have hTN : T < N := by omega
                refine ⟨fun y μ' => Wp (d + 2) 41 (147, [some (.ref 70), some (.int (zI (k : Int))), some (.int (zI (i : Int))), some (.int (zI (m0 (s + 6) (i : Int)))), some (.int (zI (j : Int)))], [.int y, .int (zI (i : Int)), .ref 82], μ') Q, noX, ?_, fun _ _ z => z, fun _ _ z => z.elim⟩
                have go := k_tmk2 (a := s + 1) (d := d + 1) (l := l) (Q := pI (fun y μ' => Wp (d + 2) 41 (147, [some (.ref 70), some (.int (zI (k : Int))), some (.int (zI (i : Int))), some (.int (zI (m0 (s + 6) (i : Int)))), some (.int (zI (j : Int)))], [.int y, .int (zI (i : Int)), .ref 82], μ') Q) noX) (ps := qs.map (sbC (fulB b))) H TS_ hq hs1 h0 hX hT1 hTN p3 hx1 (by
                  rw [f1 _ _ (by omega), f1 _ _ (by omega), sh _ _ (by omega) (by omega), sh _ _ (by omega) (by omega)]
                  exact hnl _ _ p3) (by rw [eml]; omega) (fun t ht => by
                  rw [List.length_map] at ht
                  obtain ⟨u, w1, w2, w3⟩ := h93 t (by omega)
                  refine ⟨u, w1, w2, ?_⟩
                  rw [List.getD_eq_getElem?_getD, List.getElem?_map, List.getElem?_eq_getElem ht]
                  rw [List.getD_eq_getElem?_getD, List.getElem?_eq_getElem ht] at w3
                  exact cg1 w2 w3) (fun m2 T2 t y1 y2 y0 y3 y4 y5 y6 => ?_)
                · rw [eml] at go
                  exact go
                · refine K41_147 H TS_ hq hs h2 ⟨⟨by omega, by omega⟩, ?_⟩
                  rintro m3 e3
                  have ecs : sbC (fulB b) ((a, w) :: rest) = ((qs.map (sbC (fulB b))).length, w) :: (qs.map (sbC (fulB b))).flatten := by rw [← p1, ← p2]; exact sbC_name _ (by omega)
                  have f3 : ∀ c i, ¬ c = 82 → m3 c i = m2 c i := fun c i z => by rw [e3]; exact up_c z
                  have cg2 : ∀ {t : Nat} {cs : List Cd}, t < T → Cg X q m1 t cs → Cg X q m2 t cs := fun {t cs} ht h => CgR_cg (T := T) (fun t ht => ⟨y6 _ _ (wc_tm hq ht).1, y6 _ _ (wc_tm hq ht).2.1, fun i hi => y6 _ _ ((wc_tm hq ht).2.2 i hi)⟩) _ t _ ht h
                  have cg3 : ∀ {t : Nat} {cs : List Cd}, t < T2 → Cg X q m2 t cs → Cg X q m3 t cs := fun {t cs} ht h => CgR_cg (T := T2) (fun t _ => ⟨f3 _ _ (q_82 hq).1, f3 _ _ (q_82 hq).2.1, fun i _ => f3 _ _ (q_82 hq).2.2.1⟩) _ t _ ht h
                  have ha0 : 0 < m0 (s + 7) (i : Int) := by
                    rw [p4]
                    refine Classical.byContradiction fun y => hv0 ?_
                    have hq0 : qs = [] := List.eq_nil_of_length_eq_zero (by omega)
                    have hr0 : rest = [] := by rw [← p2, hq0]; rfl
                    refine (vmC_g _).mpr ?_
                    intro c hc
                    rw [hr0] at hc
                    rcases List.mem_cons.mp hc with e | e
                    · rw [e]
                      show a < 5
                      omega
                    · exact absurd e List.not_mem_nil
                  have go := ih (i + 1) T2 m3 (some (.int (zI (m0 (s + 6) (i : Int))))) (some (.int (zI (j : Int)))) (by omega) (by omega) (CtT_fr (fun c i z => f3 c i (q_in hq z).1) y4) (by omega) (by rw [hcnt, if_pos ha0]; omega) (fun j' j0 j1 cs' d1 d2 => by
                    by_cases y : j' = i
                    · rw [y] at d1 ⊢
                      refine ⟨t, by rw [e3, up_s], y3, ?_⟩
                      rw [TcR_sb hX 11 11 _ _ _ d1 c1, ecs]
                      exact cg3 y3 y5
                    · obtain ⟨u', w1, w2, w3⟩ := hmd j' j0 (by omega) cs' d1 d2
                      refine ⟨u', ?_, by omega, cg3 (by omega) (cg2 w2 (cg1 w2 w3))⟩
                      rw [e3, up_i (by omega), y6 _ _ (wc_82 hq), f1 _ _ (by decide)]
                      exact w1) (by
                    rcases hnew with e | ⟨j', j0, j1, z⟩
                    · rcases y0 with e2 | e2
                      · exact Or.inl (by omega)
                      · by_cases e3' : T2 = T
                        · exact Or.inl (by omega)
                        · refine Or.inr ⟨i, hl, by omega, _, c1, ?_⟩
                          rintro ⟨u, u1, u2⟩
                          have g1 : Cg X q m2 u (sbC (fulB b) ((a, w) :: rest)) := cg2 (by omega) (cg1 (by omega) (Cg_wb hq fr u1 u2))
                          rw [ecs] at g1
                          have := Cg_in hX y4.2.1 (by omega) y3 g1 y5
                          omega
                    · exact Or.inr ⟨j', j0, by omega, z⟩) (fun c i z => by
                    rw [f3 c i (fun e => z (Or.inr (Or.inl e))), y6 c i (wb_ct t1 (fun e => z (Or.inr (Or.inr e)))), f1 c i (fun e => z (Or.inr (Or.inr (Or.inl e))))]
                    exact fr c i z)
                  rw [show ((i + 1 : Nat) : Int) = (i : Int) + 1 by omega] at go
                  exact go
              | succ g ihg =>
                intro j m1 hj f1 h93
                have hjl : j < qs.length := by omega
                have e7' : m1 (s + 7) (i : Int) = (a : Int) := by rw [f1 _ _ (by omega)]; exact e7
                obtain ⟨x, x1, x2, x3, x4, x5⟩ := kid j hjl
                have e8 : m1 (s + 8) (4 * (i : Int) + (j : Int)) = (x : Int) := by rw [f1 _ _ (by omega), sh _ _ (by omega) (by omega)]; exact x1
                obtain ⟨u, w1, w2, w3⟩ := hmd x x3 x2 _ x4 x5
                refine K41_76 H TS_ hq hs h2 ⟨⟨by omega, by omega⟩, ⟨by omega, by omega⟩, by rw [e7']; exact ⟨by omega, by omega⟩, fun z => by rw [e7'] at z; omega, fun _ => ⟨⟨by omega, by omega⟩, by rw [e8]; exact ⟨by omega, by omega⟩, ⟨by omega, by omega⟩, ?_⟩⟩
                rw [e8, f1 82 _ (by decide), w1]
                rintro m2 e2
                have go := ihg (j + 1) m2 (by omega) (fun c i z => by rw [e2, up_c z]; exact f1 c i z) (fun t ht => by
                  by_cases y : t = j
                  · rw [y, e2, up_s]
                    exact ⟨u, rfl, w2, w3⟩
                  · rw [e2, up_i (by omega)]
                    exact h93 t (by omega))
                rw [show ((j + 1 : Nat) : Int) = (j : Int) + 1 by omega] at go
                exact go
            exact lay qs.length 0 m (by omega) (fun _ _ _ => rfl) (fun t ht => absurd ht (Nat.not_lt_zero t))
  have e9 : m0 (s + 9) (k : Int) = (lo : Int) := by rw [n4, elo]
  refine K41_0 H TS_ hq hs h2 ⟨⟨by omega, by omega⟩, ?_⟩
  rw [e9]
  exact loop (k - lo) lo T0 m0 none none (by omega) (Nat.le_refl _) hT (Nat.le_refl _) (by omega) (fun j j0 j1 => by omega) (Or.inl rfl) (fun _ _ _ => rfl)
end CBW
