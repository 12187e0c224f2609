/-! ===== the class's become ===== -/
section CBC
variable {d : Nat} {Q : Option Value ⊕ Nat → am_Mem → Prop} {X : Int → List Int → Prop} {W : Int → Nat} {s q e T N0 K b : Nat} {rs : List Rul} {lev : List Int → Nat} {F G Fn Tf : Nat} {S0 S : List Atm} {μ : am_Mem} {m l : PM}
theorem k_held {M : List (List Cd)} {x1 : Int} (hS : ShX s μ q e) (hs : s = 22 ∨ s = 42) (hX : XP X) (hN : NmS X (s + 1) m) (hI : CtT X q (tN q) (tS q) m T) (hM : M.Nodup) (h60 : M.length ≤ 60) (hg : ∀ p, p ∈ M → GdC p ∧ tlC p ≤ 48) (hrow : RwC X q m T 95 0 M)
    (hk : ∀ (m' : PM) (A : List (List Cd)), SrT A → A.length = M.length → (∀ t, t ∈ A ↔ t ∈ M) → RwC X q m' T 94 0 A → (∀ c j, ¬ c = 94 → m' c j = m c j) → Wp (d + 15) 126 (37, [some (.ref 16), some (.int (zI x1)), some (.int (zI (M.length : Int))), some (.int (zI (M.length : Int)))], [], sA μ m' l) Q) :
    Wp (d + 15) 126 (37, [some (.ref 16), some (.int (zI x1)), some (.int (zI (M.length : Int))), some (.int (zI 0))], [], sA μ m l) Q := by
  obtain ⟨⟨s1, s2, s3, s4, s5, s6⟩, ⟨x1', x2⟩, _, _, x7⟩ := id hS
  have ha : s + 1 = 23 ∨ s + 1 = 43 := by rcases hs with h | h <;> rw [h] <;> decide
  have loop : ∀ (r i : Nat) (m1 : PM) (A : List (List Cd)), i + r = M.length → SrT A → A.length = i → (∀ t, t ∈ A ↔ t ∈ M.take i) → RwC X q m1 T 94 0 A → (∀ c j, ¬ c = 94 → m1 c j = m c j) → Wp (d + 15) 126 (37, [some (.ref 16), some (.int (zI x1)), some (.int (zI (M.length : Int))), some (.int (zI (i : Int)))], [], sA μ m1 l) Q := by
    intro r
    induction r with
    | zero =>
      intro i m1 A hi hA hl hm hr hf
      have e : i = M.length := by omega
      rw [e, List.take_length] at hm
      rw [e]
      exact hk m1 A hA (hl.trans e) hm hr hf
    | succ r ih =>
      intro i m1 A hi hA hl hm hr hf
      have hi' : i < M.length := by omega
      obtain ⟨u, u1, u2, u3⟩ := hrow i hi'
      have cg : ∀ t cs, Cg X q m t cs → Cg X q m1 t cs := fun t cs h => Cg_q (fun c j hc => hf c j (by omega)) h
      have hmem : M.getD i [] ∈ M := gD_in hi'
      have htk : M.take (i + 1) = M.take i ++ [M.getD i []] := take_p hi'
      have hnd : ¬ M.getD i [] ∈ M.take i := fun h => by
        have z := List.Nodup.sublist (List.take_sublist (i + 1) M) hM
        rw [htk] at z
        exact (List.nodup_append.mp z).2.2 _ h _ (List.mem_singleton.mpr rfl) rfl
      have e95 : m1 95 (i : Int) = (u : Int) := by
        rw [hf 95 _ (by decide), ← u1, Int.zero_add]
      refine K126_37 s1 s2 (TQ_q s3) hs s5 x1' x2 (hE_of hS) ⟨⟨by omega, by omega⟩, ⟨by omega, by omega⟩, fun z => absurd z (by omega), fun _ => ⟨⟨by omega, by omega⟩, ?_⟩⟩
      rw [e95]
      refine ⟨fun μ' => Wp (d + 15) 126 (64, [some (.ref 16), some (.int (zI x1)), some (.int (zI (M.length : Int))), some (.int (zI (i : Int)))], [], μ') Q, noX, ?_, fun _ h => h, fun _ _ z => z.elim⟩
      have go := k_insert (d := d + 11) (Q := pV (fun μ' => Wp (d + 15) 126 (64, [some (.ref 16), some (.int (zI x1)), some (.int (zI (M.length : Int))), some (.int (zI (i : Int)))], [], μ') Q) noX) (X := X) (b := 0) (u := u) (t := M.getD i []) (L := A) (r1 := 94) (m := m1) (l := l) (T := T) (a := s + 1) s1 s2 (TQ_q s3) ha s6 hX (NmS_cg (fun c j z => hf c j (by omega)) hN) (CtT_f6 (fun c j z => hf c j (by omega)) hI) (cK_94 s1) (by decide) (by decide) (by omega) hr hA (fun p hp => by
        have z := hg p (List.mem_of_mem_take ((hm p).mp hp))
        have := (GdC_48 z.1 z.2).2
        exact ⟨z.1, by omega⟩) u2 (cg u _ u3) (hg _ hmem).1 (fun h => hnd ((hm _).mp h)) (fun m2 k hk1 hA2 hr2 f2 => ?_)
      · rw [show (0 : Int) + (A.length : Int) = (i : Int) by omega] at go
        exact go
      · show Wp (d + 15) 126 (64, [some (.ref 16), some (.int (zI x1)), some (.int (zI (M.length : Int))), some (.int (zI (i : Int)))], [], sA μ m2 l) Q
        refine K126_64 s1 s2 (TQ_q s3) hs s5 x1' x2 (hE_of hS) ?_
        have w := ih (i + 1) m2 (insL k (M.getD i []) A) (by omega) hA2 (by rw [insL_len hk1, hl]) (fun t => ?_) hr2 (fun c j z => (f2 c j (fun y => z y.1)).trans (hf c j z))
        · rw [show ((i + 1 : Nat) : Int) = (i : Int) + 1 by omega] at w
          exact w
        · rw [insL_mem, htk, List.mem_append, List.mem_singleton, hm t]
          exact or_comm
  exact loop M.length 0 m [] (by omega) List.Pairwise.nil rfl (fun t => by rw [List.take_zero]) (fun i hi => absurd hi (Nat.not_lt_zero _)) (fun _ _ _ => rfl)
/-- what becoming may write -/
abbrev WBc (q c : Nat) (j : Int) : Prop := c = 94 ∨ c = 95 ∨ c = 93 ∨ (q ≤ c ∧ c ≤ q + 7) ∨ (c = 84 ∧ j = 9) ∨ (c = 16 ∧ (j = 12 ∨ j = 14)) ∨ (c = 70 ∧ j = 15)
theorem wbc_s {s q c : Nat} {j : Int} (hs : s = 22 ∨ s = 42) (hq : q = 85 ∨ 185 ≤ q) (z : (s ≤ c ∧ c ≤ s + 19) ∨ c = 81 ∨ c = 80 ∨ (c = 70 ∧ (j = 4 ∨ (12 ≤ j ∧ j ≤ 14))) ∨ (72 ≤ c ∧ c ≤ 78) ∨ (c = 71 ∧ j = 7) ∨ c = 98 ∨ c = 103) : ¬ WBc q c j := by omega
theorem k_become {x : Int} {w : List Int} (hS : ShX s μ q e) (hs : s = 22 ∨ s = 42) (hB : ClB X W s rs q m T N0) (hNf : N0 ≤ Tf) (hx : FxC X W s rs lev F G N0 m q T Fn S0 Tf) (hW : CwW X W s rs m q T S) (hnd : S.Nodup) (htm : ∀ a, a ∈ S → ∀ p, p ∈ a.2 → TmC X q m N0 p) (hxw : X x w) (hWx : W x = 1)
    (hok : ∀ (m' : PM) (T' : Nat) (st : List (List Cd)), cntA S w ≤ 60 → ClB X W s rs q m' T' N0 → FxC X W s rs lev F G N0 m' q T' Fn S0 Tf → T' ≤ Tf + 11 * st.length → m' 70 15 = (T' : Int) → m' 16 12 = (st.length : Int) → m' 16 14 = 0 → StC X q m' N0 T' st → (∀ t, t ∈ st ↔ ((w, [t]) : Atm) ∈ S) → (∀ t cs, t < Tf → Cg X q m t cs → Cg X q m' t cs) → (∀ c j, ¬ WBc q c j → m' c j = m c j) → Q (.inl none) (sA μ m' l))
    (hthr : 60 < cntA S w → Q (.inr 3) (sA (am_nX μ) m l)) :
    Wp (d + 15) 126 (0, [some (.ref 16), some (.int (zI x)), none, none], [], sA μ m l) Q := by
  obtain ⟨⟨s1, s2, s3, s4, s5, s6⟩, ⟨x1', x2⟩, _, _, x7⟩ := id hS
  obtain ⟨⟨b1, b2, b3, b4⟩, b5, b6, b7, ⟨b8, b9⟩, b10, b11, b12⟩ := id hB
  have hXP : XP X := b1.2.1
  have ha : s + 1 = 23 ∨ s + 1 = 43 := by rcases hs with h | h <;> rw [h] <;> decide
  have hTf : Tf ≤ T := hx.2.2.2.2.2.1.1
  have e14 : m 70 14 = (Tf : Int) := hx.2.2.2.2.2.2.2.2.2.2.2
  refine K126_0 s1 s2 (TQ_q s3) hs s5 x1' x2 (hE_of hS) ⟨fun x' μ' => Wp (d + 15) 126 (12, [some (.ref 16), some (.int (zI x)), none, none], [.int x'], μ') Q, fun x μ' => Q (.inr x) μ', ?_, fun _ _ h => h, fun _ _ h => h⟩
  refine k_collect (d := d + 14) (Q := pI _ _) (X := X) (r2 := 95) hS.1 hs hW hnd hxw hWx (cK_95 s1) (by decide) (by decide) (by decide) (fun m1 M hM1 hM2 hM3 hM4 rw1 f1 => ?_) hthr
  show Wp (d + 15) 126 (12, [some (.ref 16), some (.int (zI x)), none, none], [.int (zI (M.length : Int))], sA μ m1 l) Q
  have cg1 : ∀ t cs, Cg X q m t cs → Cg X q m1 t cs := fun t cs h => Cg_q (fun c j hc => f1 c j (by omega)) h
  have tmM : ∀ p, p ∈ M → TmC X q m1 N0 p := fun p hp => TmC_st (fun t cs _ h => cg1 t cs h) (htm _ ((hM4 p).mp hp) p (List.mem_singleton.mpr rfl))
  have hsum := sum_11 (L := M) (fun p hp => ⟨(tmM p hp).1, (tmM p hp).2.1⟩)
  refine K126_12 s1 s2 (TQ_q s3) hs s5 x1' x2 (hE_of hS) ?_
  rw [f1 70 14 (by decide), e14]
  refine ⟨fun μ' => Wp (d + 15) 126 (35, [some (.ref 16), some (.int (zI x)), some (.int (zI (M.length : Int))), none], [], μ') Q, noX, ?_, fun _ h => h, fun _ _ z => z.elim⟩
  refine k_keep (d := d + 11) (Q := pV _ noX) (X := X) (r1 := 95) (M := Tf) (T := T) (a := s + 1) s1 s2 (TQ_q s3) ha s6 hXP (NmS_cg (fun c j z => f1 c j (by omega)) b5) (CtT_f6 (fun c j z => f1 c j (by omega)) b6) hTf (cK_95 s1) (by decide) (by decide) hM3 rw1 (fun p hp => (tmM p hp).1) (fun p hp w' hw => ?_) (fun m2 T2 hT2 hT2' hs2 ct2 rw2 cg2 f2 => ?_)
  · obtain ⟨u, u1, u2⟩ := (tmM p hp).2.2 w' hw
    exact ⟨u, Nat.lt_of_lt_of_le u1 hNf, u2⟩
  · show Wp (d + 15) 126 (35, [some (.ref 16), some (.int (zI x)), some (.int (zI (M.length : Int))), none], [], sA μ m2 l) Q
    refine K126_35 s1 s2 (TQ_q s3) hs s5 x1' x2 (hE_of hS) ?_
    have nm2 : NmS X (s + 1) m2 := NmS_cg (fun c j z => (f2 c j (by omega)).trans (f1 c j (by omega))) b5
    refine k_held (d := d) hS hs hXP nm2 ct2 hM1 hM3 (fun p hp => ⟨(tmM p hp).1, (tmM p hp).2.1⟩) rw2 (fun m3 A hA hAl hAm rw3 f3 => ?_)
    refine K126_37 s1 s2 (TQ_q s3) hs s5 x1' x2 (hE_of hS) ⟨⟨by omega, by omega⟩, ⟨by omega, by omega⟩, fun _ m4 e4 => ?_, fun z => absurd (Int.le_refl _) z⟩
    rw [f3 84 9 (by decide), ct2.1.1] at e4
    generalize hm5 : up m4 16 14 0 = m5
    have o5 : ∀ c j, ¬ ((c = 16 ∧ (j = 12 ∨ j = 14)) ∨ (c = 70 ∧ j = 15)) → m5 c j = m3 c j := fun c j z => by rw [← hm5, up_o (by omega), e4, up_o (by omega), up_o (by omega)]
    have om : ∀ c j, ¬ WBc q c j → m5 c j = m c j := fun c j z => (o5 c j (by omega)).trans ((f3 c j (by omega)).trans ((f2 c j (by omega)).trans (f1 c j (by omega))))
    have cg5 : ∀ t cs, Cg X q m2 t cs → Cg X q m5 t cs := fun t cs h => Cg_q (fun c j hc => (o5 c j (by omega)).trans (f3 c j (by omega))) h
    have cgm : ∀ t cs, t < Tf → Cg X q m t cs → Cg X q m5 t cs := fun t cs ht h => cg5 t cs (cg2 t cs ht (cg1 t cs h))
    have ct5 : CtT X q (tN q) (tS q) m5 T2 := CtT_f6 (fun c j z => (o5 c j (by omega)).trans (f3 c j (by omega))) ct2
    refine hok m5 T2 A (by rw [← hM2]; exact hM3) (ClB_st (fun c j z => om c j (wbc_s hs s3 (by
      rcases z with z | z | z | z | z
      · exact Or.inl z
      · exact Or.inr (Or.inr (Or.inl z))
      · exact Or.inr (Or.inl z)
      · exact Or.inr (Or.inr (Or.inr (Or.inl ⟨z.1, Or.inl z.2⟩)))
      · exact Or.inr (Or.inr (Or.inr (Or.inr (Or.inr (Or.inr z.1)))))))) (fun t cs ht => cgm t cs (Nat.lt_of_lt_of_le ht hNf)) ct5 hB) (FxC_o hS.1 hs hx (fun c j z => om c j (wbc_s hs s3 (by
      rcases z with z | z | z | z | z
      · exact Or.inl z
      · exact Or.inr (Or.inl z)
      · exact Or.inr (Or.inr (Or.inr (Or.inl ⟨z.1, Or.inr z.2⟩)))
      · exact Or.inr (Or.inr (Or.inr (Or.inr (Or.inl z))))
      · exact Or.inr (Or.inr (Or.inr (Or.inr (Or.inr (Or.inl z)))))))) cgm hT2 ct5) (by rw [hAl]; omega) ?_ ?_ ?_ ⟨hA, by rw [hAl]; exact hM3, fun p hp => ?_, RwC_st (Nat.le_refl _) (fun j _ _ => o5 _ _ (by omega)) (fun t cs _ h => ?_) rw3⟩ (fun t => (hAm t).trans (hM4 t)) cgm om
    · rw [← hm5, up_c (by decide), e4, up_s]
    · rw [← hm5, up_i (by decide), e4, up_c (by decide), up_s, hAl]
    · rw [← hm5, up_s]
    · exact TmC_st (fun t cs ht h => cg5 t cs (cg2 t cs (Nat.lt_of_lt_of_le ht hNf) h)) (tmM p ((hAm p).mp hp))
    · exact Cg_q (fun c j hc => o5 c j (by omega)) h
end CBC
