/-! ===== the class's store: load ===== -/
/-- what loading writes -/
abbrev WLd (q c : Nat) (j : Int) : Prop := c = 111 ∨ c = 93 ∨ (q ≤ c ∧ c ≤ q + 7) ∨ (c = 84 ∧ j = 9)
section CLD
variable {d : Nat} {Q : Option Value ⊕ Nat → am_Mem → Prop} {X : Int → List Int → Prop} {μ : am_Mem} {m l : PM} {s q e T n : Nat} {A : List (List Cd)}
theorem gD_rev {A : List (List Cd)} {j : Nat} (h : j < A.length) : A.reverse.getD j [] = A.getD (A.length - 1 - j) [] := by
  rw [List.getD_eq_getElem?_getD, List.getD_eq_getElem?_getD, List.getElem?_reverse h]
theorem k_load (hS : ShX s μ q e) (hs : s = 22 ∨ s = 42) (hX : XP X) (hX2 : ∀ x w, X x w → x < 1024) (hnl : ∀ x w, X x w → m (s + 4) (x + 1) - m (s + 4) x = (w.length : Int)) (hI : CtT X q (tN q) (tS q) m T) (hT : T + 1140 ≤ 58192) (hSi : St1 X m e n A) (hA : GdL A) (hn : n ≤ 300) (hsh : ∀ j, 0 ≤ m e j ∧ m e j ≤ 32767) (hN0 : ∀ p, p ∈ A → ∀ w, ((0, w) : Cd) ∈ p → ∃ u : Nat, u < T ∧ Cg X q m u [(0, w)])
    (hk : ∀ (μ' : am_Mem) (m' l' : PM) (q' T' : Nat), Gw μ q μ' q' → T ≤ T' → T' ≤ T + nIn A.flatten → CtT X q' (tN q') (tS q') m' T' → RwC X q' m' T' 111 0 A.reverse → (∀ c j, c < am_n μ → ¬ WLd q c j → m' c j = m c j) → (∀ c j, c < am_n μ → l' c j = l c j) → (∀ t cs, t < T → Cg X q m t cs → Cg X q' m' t cs) → Q (.inl (some (.int (zI (A.length : Int))))) (sA μ' m' l')) :
    Wp (d + 3) 87 (0, [some (.ref 107), some (.int (zI (n : Int))), some (.ref 84), none, none, none, none], [], sA μ m l) Q := by
  obtain ⟨⟨s1, s2, s3, s4, s5, s6⟩, ⟨x1', x2'⟩, ⟨x3, x4, x5⟩, x6, x7⟩ := id hS
  obtain ⟨f, f1, f2, f3, f4, f5, f6⟩ := hSi
  have hAf := GdL_f hA
  have hcN : cN e ≤ 343140 := by
    have := hE_of hS
    omega
  have hqn : q + 8 ≤ am_n μ := s4.2
  refine K87_0 s1 s2 (TQ_q s3) x1' x2' (hE_of hS) ?_
  rw [f1, f2, show (f : Int) + (A.flatten.length : Int) - (f : Int) = (A.flatten.length : Int) by omega]
  refine ⟨⟨by omega, by omega⟩, ⟨by omega, by omega⟩, fun μ' => Wp (d + 3) 87 (19, [some (.ref 107), some (.int (zI (n : Int))), some (.ref 84), none, none, none, none], [], μ') Q, noX, ?_, fun _ z => z, fun _ _ z => z.elim⟩
  refine k_reserve (d := d) (Q := pV _ noX) hS.1 hI (by omega) (fun μ1 m1 l1 q1 G1 C1 hroom fr cg1 => ?_)
  show Wp (d + 3) 87 (19, _, [], _) Q
  obtain ⟨Gx1, S1⟩ := Gx_of hS G1
  obtain ⟨⟨r1, r2, r3, r4, r5, r6⟩, ⟨y1, y2⟩, ⟨y3, y4, y5⟩, y6, y7⟩ := id S1
  have hq1 := TQ_q r3
  have hE1 := hE_of S1
  have h58 := tN_le q1
  have hq12 : q1 = q ∨ (q = 85 ∧ am_n μ ≤ q1) := Gx1.2.2.2.1
  have m109 : ∀ j, m1 109 j = m 109 j := fun j => (fr 109 j (by omega)).1
  have me : ∀ j, m1 e j = m e j := fun j => (fr e j (by omega)).1
  have hs34 : s + 4 < am_n μ := by omega
  refine K87_19 r1 r2 hq1 y1 y2 hE1 ?_
  rw [m109, f2]
  refine ⟨⟨by omega, by omega⟩, ?_⟩
  obtain ⟨sk, sk0, sk1, sk2⟩ := sk_ex A hA.2
  have hN0f : ∀ w, ((0, w) : Cd) ∈ A.flatten → ∃ u : Nat, u < T ∧ Cg X q m u [(0, w)] := fun w hw => by
    obtain ⟨p, p1, p2⟩ := List.mem_flatten.mp hw
    exact hN0 p p1 w p2
  have loop : ∀ (i : Nat) (m2 : PM) (T2 : Nat) (o5 o6 : Option Value), i ≤ A.flatten.length → T ≤ T2 → T2 ≤ T + nIn (A.flatten.drop i) → CtT X q1 (tN q1) (tS q1) m2 T2 → PlC X q1 m2 T2 111 (sk i) → (∀ c j, ¬ WLd q1 c j → m2 c j = m1 c j) → (∀ t cs, t < T → Cg X q1 m1 t cs → Cg X q1 m2 t cs) → Wp (d + 3) 87 (33, [some (.ref 107), some (.int (zI (n : Int))), some (.ref 84), some (.int (zI ((sk i).length : Int))), some (.int (zI ((f : Int) + (i : Int) - 1))), o5, o6], [], sA μ1 m2 l1) Q := by
    intro i
    induction i with
    | zero =>
      intro m2 T2 o5 o6 hi t1 t2 C2 pl f2' cg2
      have e1 : m2 109 (n : Int) = (f : Int) := (f2' _ _ (by omega)).trans ((m109 _).trans f1)
      refine K87_33 r1 r2 hq1 y1 y2 hE1 ?_
      rw [e1]
      refine ⟨⟨by omega, by omega⟩, ⟨by omega, by omega⟩, ⟨by omega, by omega⟩, fun _ => ?_, fun z => absurd (by omega) z⟩
      rw [sk0] at pl ⊢
      rw [List.drop_zero] at t2
      refine hk μ1 m2 l1 q1 T2 G1 t1 t2 C2 (fun j hj => ?_) (fun c j hc z => ?_) (fun c j hc => (fr c j hc).2) (fun t cs ht h => cg2 t cs ht (cg1 t cs ht h))
      · rw [List.length_reverse] at hj
        obtain ⟨u, u1, u2, u3⟩ := pl (A.length - 1 - j) (by omega)
        refine ⟨u, ?_, u2, by rw [gD_rev hj]; exact u3⟩
        rw [← u1]
        congr 1
        omega
      · rw [f2' c j (by omega)]
        exact (fr c j hc).1
    | succ i ih =>
      intro m2 T2 o5 o6 hi t1 t2 C2 pl f2' cg2
      have hil : i < A.flatten.length := by omega
      obtain ⟨w, ps, rest, k1', k4, k2', k3', k5⟩ := sk2 i hil
      have hlen2 := (sk1 (i + 1) hi).2.2
      have hlen1 := (sk1 i (by omega)).2.2
      rw [k1', List.length_cons] at hlen1
      have hA60 := hA.1
      obtain ⟨x, hx, hx4, hx8⟩ := f5 i hil
      rw [k5] at hx hx4 hx8
      have hx0 := (hX.1 _ _ hx).1
      have hx1 := hX2 _ _ hx
      have hxe : m2 e ((f : Int) + (i : Int)) = 8 * x + (ps.length : Int) := (f2' _ _ (by omega)).trans ((me _).trans hx8)
      have e1 : m2 109 (n : Int) = (f : Int) := (f2' _ _ (by omega)).trans ((m109 _).trans f1)
      have ed : zDiv (8 * x + (ps.length : Int)) 8 = x := by
        rw [zDiv_n ⟨by omega, by omega⟩ ⟨by decide, by decide⟩]
        omega
      refine K87_33 r1 r2 hq1 y1 y2 hE1 ?_
      rw [e1, show (f : Int) + ((i + 1 : Nat) : Int) - 1 = (f : Int) + (i : Int) by omega, hxe, ed]
      refine ⟨⟨by omega, by omega⟩, ⟨by omega, by omega⟩, ⟨by omega, by omega⟩, fun z => absurd z (by omega), fun _ => ⟨⟨by omega, by omega⟩, fun v1 ev1 => ?_⟩⟩
      have e5 : v1 = (ps.length : Int) := by omega
      rw [e5, k3', List.length_append]
      rw [k3'] at pl
      have inner : ∀ (h k : Nat) (m3 : PM), k + h = ps.length → (∀ c j, ¬ c = 93 → m3 c j = m2 c j) → (∀ j : Nat, j < k → ∃ u : Nat, m3 93 (j : Int) = (u : Int) ∧ u < T2 ∧ Cg X q1 m2 u (ps.getD j [])) → Wp (d + 3) 87 (59, [some (.ref 107), some (.int (zI (n : Int))), some (.ref 84), some (.int (zI ((rest.length : Int) + (h : Int)))), some (.int (zI ((f : Int) + (i : Int)))), some (.int (zI (ps.length : Int))), some (.int (zI (k : Int)))], [], sA μ1 m3 l1) Q := by
        intro h
        induction h with
        | zero =>
          intro k m3 hk3 f3' hd
          have hxe3 : m3 e ((f : Int) + (i : Int)) = 8 * x + (ps.length : Int) := (f3' _ _ (by omega)).trans hxe
          have cg23 : ∀ t cs, t < T2 → Cg X q1 m2 t cs → Cg X q1 m3 t cs := fun t cs ht h => CgR_cg (T := T2) (fun t _ => ⟨f3' _ _ (by omega), f3' _ _ (by omega), fun i _ => f3' _ _ (by omega)⟩) _ t cs ht h
          have hdr : A.flatten.drop i = (ps.length, w) :: A.flatten.drop (i + 1) := by
            rw [List.drop_eq_getElem_cons hil]
            congr 1
            rw [List.getD_eq_getElem?_getD, List.getElem?_eq_getElem hil] at k5
            exact k5
          have hnd : nIn (A.flatten.drop (i + 1)) ≤ A.flatten.length - (i + 1) := by
            have := List.length_filter_le (fun c : Cd => decide (0 < c.1 ∧ c.1 < 5)) (A.flatten.drop (i + 1))
            rw [List.length_drop] at this
            exact this
          refine K87_59 r1 r2 hq1 y1 y2 hE1 ?_
          rw [hxe3, ed]
          refine ⟨⟨by omega, by omega⟩, ⟨by omega, by omega⟩, fun _ => ⟨⟨by omega, by omega⟩, fun y μ' => Wp (d + 3) 87 (109, [some (.ref 107), some (.int (zI (n : Int))), some (.ref 84), some (.int (zI ((rest.length : Int) + ((0 : Nat) : Int)))), some (.int (zI ((f : Int) + (i : Int)))), some (.int (zI (ps.length : Int))), some (.int (zI (k : Int)))], [.int y, .int (zI ((rest.length : Int) + ((0 : Nat) : Int))), .ref 111], μ') Q, noX, ?_, fun _ _ z => z, fun _ _ z => z.elim⟩, fun z => absurd (by omega) z⟩
          refine k_tmk2 (a := s + 1) (d := d + 2) (Q := pI _ noX) r1 r2 hq1 (by omega) r6 hX (CtT_fr (fun c j z => f3' c j (by omega)) C2) (by omega) hx hx1 (by
            rw [f3' _ _ (by omega), f3' _ _ (by omega), f2' _ _ (by omega), f2' _ _ (by omega), (fr _ _ (by omega)).1, (fr _ _ (by omega)).1]
            exact hnl x w hx) k4 (fun j hj => by
            obtain ⟨u, u1, u2, u3⟩ := hd j (by omega)
            exact ⟨u, u1, u2, cg23 _ _ u2 u3⟩) (fun m4 T4 t4 z1 z2 z3 z4 z5 z6 z7 => ?_)
          show Wp (d + 3) 87 (109, _, [.int (zI (t4 : Int)), _, .ref 111], _) Q
          refine K87_109 r1 r2 hq1 y1 y2 hE1 ⟨⟨by omega, by omega⟩, fun m5 e5' => ?_⟩
          have cg34 : ∀ t cs, t < T2 → Cg X q1 m3 t cs → Cg X q1 m4 t cs := fun t cs ht h => CgR_cg (T := T2) (fun t ht => ⟨z7 _ _ (wc_tm hq1 ht).1, z7 _ _ (wc_tm hq1 ht).2.1, fun i hi => z7 _ _ ((wc_tm hq1 ht).2.2 i hi)⟩) _ t cs ht h
          have o5' : ∀ c j, ¬ c = 111 → m5 c j = m4 c j := fun c j z => by rw [e5', up_c z]
          have cg45 : ∀ t cs, t < T4 → Cg X q1 m4 t cs → Cg X q1 m5 t cs := fun t cs ht h => CgR_cg (T := T4) (fun t _ => ⟨o5' _ _ (by omega), o5' _ _ (by omega), fun i _ => o5' _ _ (by omega)⟩) _ t cs ht h
          have hT4 : T4 ≤ T + nIn (A.flatten.drop i) := by
            rw [hdr, nIn_c]
            by_cases y0 : 0 < ps.length
            · rw [if_pos ⟨y0, by omega⟩]
              omega
            · rw [if_neg (fun z => y0 z.1)]
              rcases z3 with z3 | z3
              · omega
              · have ep : ps = [] := List.eq_nil_of_length_eq_zero (by omega)
                have hmem : ((0, w) : Cd) ∈ A.flatten := by
                  have : A.flatten.getD i (0, []) = (0, w) := by rw [k5, ep]; rfl
                  rw [← this, List.getD_eq_getElem?_getD, List.getElem?_eq_getElem hil]
                  exact List.getElem_mem hil
                obtain ⟨u, u1, u2⟩ := hN0f w hmem
                have hu4 := cg34 u _ (by omega) (cg23 u _ (by omega) (cg2 u _ u1 (cg1 u _ u1 u2)))
                rw [ep] at z6
                have := Cg_in hX z5.2.1 (by omega) z4 hu4 z6
                omega
          have hf5 : ∀ c j, ¬ WLd q1 c j → m5 c j = m1 c j := fun c j z => by
            rw [o5' c j (by omega), z7 c j (by omega), f3' c j (by omega)]
            exact f2' c j z
          have go := ih m5 T4 (some (.int (zI (ps.length : Int)))) (some (.int (zI (k : Int)))) (by omega) (by omega) hT4 (CtT_fr (fun c j z => o5' c j (by omega)) z5) (fun j hj => ?_) hf5 (fun t cs ht h => cg45 t cs (by omega) (cg34 t cs (by omega) (cg23 t cs (by omega) (cg2 t cs ht h))))
          · rw [k1', List.length_cons] at go
            rw [show ((rest.length + 1 : Nat) : Int) = (rest.length : Int) + ((0 : Nat) : Int) + 1 by omega] at go
            exact go
          · rw [k1', List.length_cons] at hj ⊢
            by_cases y0 : j = 0
            · rw [y0, gD_c0]
              refine ⟨t4, ?_, z4, cg45 _ _ z4 z6⟩
              rw [e5', show ((rest.length + 1 : Nat) : Int) - 1 - ((0 : Nat) : Int) = (rest.length : Int) + ((0 : Nat) : Int) by omega, up_s]
            · obtain ⟨j', rfl⟩ : ∃ j', j = j' + 1 := ⟨j - 1, by omega⟩
              rw [gD_cs]
              obtain ⟨u, u1, u2, u3⟩ := pl (ps.length + j') (by rw [List.length_append]; omega)
              rw [gD_a2] at u3
              refine ⟨u, ?_, by omega, cg45 _ _ (by omega) (cg34 _ _ u2 (cg23 _ _ u2 u3))⟩
              rw [e5', up_i (by omega), z7 _ _ (by omega), f3' _ _ (by omega), ← u1]
              congr 1
              rw [List.length_append]
              omega
        | succ h ihh =>
          intro k m3 hk3 f3' hd
          obtain ⟨u, u1, u2, u3⟩ := pl k (by rw [List.length_append]; omega)
          rw [gD_a1 (by omega)] at u3
          have eu : m3 111 ((rest.length : Int) + ((h + 1 : Nat) : Int) - 1) = (u : Int) := by
            rw [f3' _ _ (by omega), ← u1]
            congr 1
            rw [List.length_append]
            omega
          rw [k3', List.length_append] at hlen2
          refine K87_59 r1 r2 hq1 y1 y2 hE1 ⟨⟨by omega, by omega⟩, ⟨by omega, by omega⟩, fun z => absurd z (by omega), fun _ => ⟨⟨by omega, by omega⟩, ⟨by omega, by omega⟩, fun m4 e4 => ?_⟩⟩
          rw [eu] at e4
          have go := ihh (k + 1) m4 (by omega) (fun c j z => by rw [e4, up_c z]; exact f3' c j z) (fun j hj => by
            by_cases y : j = k
            · exact ⟨u, by rw [y, e4, up_s], u2, by rw [y]; exact u3⟩
            · obtain ⟨v, v1, v2, v3⟩ := hd j (by omega)
              exact ⟨v, by rw [e4, up_i (by omega)]; exact v1, v2, v3⟩)
          rw [show (rest.length : Int) + (h : Int) = (rest.length : Int) + ((h + 1 : Nat) : Int) - 1 by omega, show ((k + 1 : Nat) : Int) = (k : Int) + 1 by omega] at go
          exact go
      have go := inner ps.length 0 m2 (by omega) (fun _ _ _ => rfl) (fun j hj => absurd hj (Nat.not_lt_zero j))
      rw [show (rest.length : Int) + (ps.length : Int) = ((ps.length + rest.length : Nat) : Int) by omega] at go
      exact go
  have h0 : (sk A.flatten.length).length = 0 := by
    have h1 := flat_len (sk1 A.flatten.length (Nat.le_refl _)).2.1
    rw [(sk1 A.flatten.length (Nat.le_refl _)).1, List.drop_length] at h1
    have : (sk A.flatten.length).length ≤ 0 := h1
    omega
  have go := loop A.flatten.length m1 T none none (Nat.le_refl _) (Nat.le_refl _) (by omega) C1 (fun j hj => absurd hj (by omega)) (fun _ _ _ => rfl) (fun _ _ _ h => h)
  rw [h0] at go
  exact go
end CLD
