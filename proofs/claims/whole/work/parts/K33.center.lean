/-! ===== the class's enter; its states and the document's ===== -/
/-- the class's states, each in its own order, are these -/
def CoA (X : Int → List Int → Prop) (As sts : List (List (List Cd))) : Prop := As.length = sts.length ∧ ∀ i : Nat, i < As.length → SrH X (As.getD i []) ∧ SrT (sts.getD i []) ∧ (∀ t, t ∈ As.getD i [] ↔ t ∈ sts.getD i []) ∧ (As.getD i []).length = (sts.getD i []).length
section CEN
variable {d : Nat} {Q : Option Value ⊕ Nat → am_Mem → Prop} {X : Int → List Int → Prop} {W : Int → Nat} {s q e T N0 : Nat} {rs : List Rul} {lev : List Int → Nat} {F G Fn Tf : Nat} {S0 S : List Atm} {μ : am_Mem} {m l : PM} {As sts : List (List (List Cd))} {A st : List (List Cd)}
theorem CoA_ix (h : CoA X As sts) (hA : SrH X A) (hst : SrT st) (hm : ∀ t, t ∈ A ↔ t ∈ st) : (∀ i : Nat, i < As.length → (As.getD i [] = A ↔ sts.getD i [] = st)) ∧ (A ∈ As ↔ st ∈ sts) ∧ ixS A As = ixS st sts := by
  obtain ⟨hl, h⟩ := h
  have key : ∀ i : Nat, i < As.length → (As.getD i [] = A ↔ sts.getD i [] = st) := fun i hi => by
    obtain ⟨h1, h2, h3, _⟩ := h i hi
    constructor
    · intro e
      exact SrT_uni h2 hst (fun t => by rw [← h3 t, e]; exact hm t)
    · intro e
      exact SrH_uni h1 hA (fun t => by rw [h3 t, e]; exact (hm t).symm)
  have mem : A ∈ As ↔ st ∈ sts := by
    constructor
    · intro y
      obtain ⟨i, hi, ei⟩ := (mem_gD As [] A).mp y
      exact (mem_gD sts [] st).mpr ⟨i, by omega, (key i hi).mp ei⟩
    · intro y
      obtain ⟨i, hi, ei⟩ := (mem_gD sts [] st).mp y
      exact (mem_gD As [] A).mpr ⟨i, by omega, (key i (by omega)).mpr ei⟩
  refine ⟨key, mem, ?_⟩
  by_cases y : A ∈ As
  · -- the first place is the same
    have first : ∀ (B : List (List (List Cd))) (a : List (List Cd)), a ∈ B → B.getD (ixS a B) [] = a ∧ ∀ i, i < ixS a B → ¬ B.getD i [] = a := by
      intro B
      induction B with
      | nil => intro a ha; exact absurd ha List.not_mem_nil
      | cons b B ih =>
        intro a ha
        by_cases z : b = a
        · have e0 : ixS a (b :: B) = 0 := if_pos z
          rw [e0]
          exact ⟨z, fun i hi => absurd hi (Nat.not_lt_zero _)⟩
        · have e0 : ixS a (b :: B) = ixS a B + 1 := if_neg z
          have ha' : a ∈ B := by
            rcases List.mem_cons.mp ha with w | w
            · exact absurd w.symm z
            · exact w
          obtain ⟨i1, i2⟩ := ih a ha'
          rw [e0]
          refine ⟨i1, fun i hi => ?_⟩
          cases i with
          | zero => exact z
          | succ i => exact i2 i (by omega)
    obtain ⟨f1, f2⟩ := first As A y
    have hlt := ixS_lt y
    exact (ixS_eq (sts := sts) (k := ixS A As) (by omega) ((key _ hlt).mp f1) (fun i hi z => f2 i hi ((key i (by omega)).mpr z))).symm
  · rw [ixS_no y, ixS_no (fun z => y (mem.mpr z)), hl]
theorem CoA_add (h : CoA X As sts) (hA : SrH X A) (hst : SrT st) (hm : ∀ t, t ∈ A ↔ t ∈ st) (hl : A.length = st.length) : CoA X (As ++ [A]) (sts ++ [st]) := by
  obtain ⟨h1, h2⟩ := h
  refine ⟨by rw [List.length_append, List.length_append, h1]; rfl, fun i hi => ?_⟩
  rw [List.length_append, List.length_singleton] at hi
  by_cases y : i = As.length
  · have e1 : (As ++ [A]).getD i [] = A := by rw [y, gD_snX]
    have e2 : (sts ++ [st]).getD i [] = st := by rw [y, h1, gD_snX]
    rw [e1, e2]
    exact ⟨hA, hst, hm, hl⟩
  · rw [gD_app (by omega), gD_app (by omega)]
    exact h2 i (by omega)
theorem nd_same {A st : List (List Cd)} (h1 : A.Nodup) (h2 : st.Nodup) (hm : ∀ t, t ∈ A ↔ t ∈ st) : A.length = st.length := Nat.le_antisymm (List.Nodup.length_le_of_subset h1 (fun t ht => (hm t).mp ht)) (List.Nodup.length_le_of_subset h2 (fun t ht => (hm t).mpr ht))
/-- what entering a state writes -/
abbrev WEn (e c : Nat) (j : Int) : Prop := c = 95 ∨ WTl e c ∨ (c = 107 ∧ j = 3) ∨ c = 113 ∨ (c = 106 ∧ j = 1)
theorem kl_enter {x : Int} {w : List Int} (hS : ShX s μ q e) (hs : s = 22 ∨ s = 42) (hB : ClB X W s rs q m T N0) (hW : CwW X W s rs m q T S) (hnd : S.Nodup) (htm : ∀ a, a ∈ S → ∀ p, p ∈ a.2 → TmC X q m N0 p) (hxw : X x w) (hWx : W x = 1) (hst : SrT st) (hstm : ∀ t, t ∈ st ↔ ((w, [t]) : Atm) ∈ S) (hSt : StI X m e As) (hCo : CoA X As sts)
    (hok : ∀ (μ' : am_Mem) (m' l' : PM) (e' : Nat) (As' : List (List (List Cd))), cntA S w ≤ 60 → (st ∈ sts ∨ sts.length < 300) → Gx μ q e μ' q e' → ShX s μ' q e' → StI X m' e' As' → CoA X As' (adS sts st) → m' 106 1 = (As'.length : Int) → m' 113 ((ixS st sts : Nat) : Int) = (st.length : Int) → (∀ j, ¬ j = ((ixS st sts : Nat) : Int) → m' 113 j = m 113 j) → (∀ c j, c < am_n μ → ¬ WEn e c j → m' c j = m c j) → (∀ c j, c < am_n μ → l' c j = l c j) → Q (.inl (some (.int (zI ((ixS st sts : Nat) : Int))))) (sA μ' m' l'))
    (hthr : ∀ (μ' : am_Mem) (m' l' : PM) (e' : Nat), (60 < cntA S w ∨ (¬ st ∈ sts ∧ sts.length = 300)) → Gx μ q e μ' q e' → ShX s μ' q e' → m' 109 0 = m 109 0 → (∀ j, 0 ≤ m' e' j ∧ m' e' j ≤ 32767) → (∀ c j, c < am_n μ → ¬ WEn e c j → m' c j = m c j) → (∀ c j, c < am_n μ → l' c j = l c j) → Q (.inr 3) (sA (am_nX μ') m' l')) :
    Wp (d + 15) 137 (0, [some (.ref 16), some (.int (zI x)), none], [], sA μ m l) Q := by
  obtain ⟨⟨s1, s2, s3, s4, s5, s6⟩, ⟨x1', x2⟩, ⟨x3, _⟩, _, x7⟩ := id hS
  obtain ⟨⟨b1, b2, b3, b4⟩, b5, b6, b7, ⟨b8, b9⟩, b10, b11, b12⟩ := id hB
  have hXP : XP X := b1.2.1
  have hX2 : ∀ x w, X x w → x < 1024 := b1.2.2.1.1
  have ha : s + 1 = 23 ∨ s + 1 = 43 := by rcases hs with h | h <;> rw [h] <;> decide
  refine K137_0 s1 s2 (TQ_q s3) hs s5 x1' x2 (hE_of hS) ⟨fun x' μ' => Wp (d + 15) 137 (12, [some (.ref 16), some (.int (zI x)), none], [.int x'], μ') Q, fun x μ' => Q (.inr x) μ', ?_, fun _ _ h => h, fun _ _ h => h⟩
  refine k_collect (d := d + 14) (Q := pI _ _) (X := X) (r2 := 95) hS.1 hs hW hnd hxw hWx (cK_95 s1) (by decide) (by decide) (by decide) (fun m1 M hM1 hM2 hM3 hM4 rw1 f1 => ?_) (fun hgt => hthr μ m l e (Or.inl hgt) Gx_r hS rfl hSt.2.2.2.1 (fun _ _ _ _ => rfl) (fun _ _ _ => rfl))
  show Wp (d + 15) 137 (12, [some (.ref 16), some (.int (zI x)), none], [.int (zI (M.length : Int))], sA μ m1 l) Q
  have tmM : ∀ p, p ∈ M → GdC p ∧ tlC p ≤ 48 := fun p hp => by
    have z := htm _ ((hM4 p).mp hp) p (List.mem_singleton.mpr rfl)
    exact ⟨z.1, z.2.1⟩
  have ct1 : CtT X q (tN q) (tS q) m1 T := CtT_f6 (fun c j z => f1 c j (by omega)) b6
  refine K137_12 s1 s2 (TQ_q s3) hs s5 x1' x2 (hE_of hS) ⟨fun μ' => Wp (d + 15) 137 (28, [some (.ref 16), some (.int (zI x)), some (.int (zI (M.length : Int)))], [], μ') Q, noX, ?_, fun _ h => h, fun _ _ z => z.elim⟩
  refine k_arrange (d := d + 9) (Q := pV _ noX) (X := X) (r1 := 95) (T := T) (a := s + 1) s1 s2 (TQ_q s3) ha s6 hXP (NmS_cg (fun c j z => f1 c j (by omega)) b5) ct1 (cK_95 s1) (by decide) (by decide) hM3 rw1 hM1 (fun p hp => ⟨(tmM p hp).1, by
    have := (GdC_48 (tmM p hp).1 (tmM p hp).2).2
    omega⟩) (fun m2 A hA hAl hAm rw2 f2 => ?_)
  show Wp (d + 15) 137 (28, [some (.ref 16), some (.int (zI x)), some (.int (zI (M.length : Int)))], [], sA μ m2 l) Q
  have o2 : ∀ c j, ¬ c = 95 → m2 c j = m c j := fun c j z => (f2 c j z).trans (f1 c j z)
  have hAst : ∀ t, t ∈ A ↔ t ∈ st := fun t => (hAm t).trans ((hM4 t).trans (hstm t).symm)
  have hMst : M.length = st.length := nd_same hM1 (SrT_nd hst) (fun t => (hM4 t).trans (hstm t).symm)
  obtain ⟨cx1, cx2, cx3⟩ := CoA_ix hCo hA hst hAst
  have hGd : GdL A := ⟨by rw [hAl]; exact hM3, fun p hp => by
    have z := tmM p ((hAm p).mp hp)
    exact ⟨z.1, (GdC_48 z.1 z.2).2⟩⟩
  have hSt2 : StI X m2 e As := StI_o (fun c j h => o2 c j (by omega)) hSt
  refine K137_28 s1 s2 (TQ_q s3) hs s5 x1' x2 (hE_of hS) ⟨fun x' μ' => Wp (d + 15) 137 (47, [some (.ref 16), some (.int (zI x)), some (.int (zI (M.length : Int)))], [.int x'], μ') Q, fun x μ' => Q (.inr x) μ', ?_, fun _ _ h => h, fun _ _ h => h⟩
  rw [← hAl]
  refine k_enter (d := d + 10) (Q := pI _ _) (X := X) (A := A) (r1 := 95) (T := T) hS hXP hX2 (CtT_f6 (fun c j z => o2 c j (by omega)) b6) hSt2 hGd (cK_95 s1) (by decide) (by decide) (by rw [hAl]; exact hM3) rw2 (fun μ3 m3 l3 e3 hin G3 S3 t3 e106 e113 o113 fr fl => ?_) (fun μ3 m3 l3 e3 hin hl3 G3 S3 t3 e106 e113 o113 fr fl => ?_) (fun μ3 m3 l3 e3 hin hl3 G3 S3 t3 fr fl => ?_)
  · show Wp (d + 15) 137 (47, [some (.ref 16), some (.int (zI x)), some (.int (zI (A.length : Int)))], [.int (zI ((ixS A As : Nat) : Int))], sA μ3 m3 l3) Q
    obtain ⟨⟨r1, r2, r3, r4, r5, r6⟩, ⟨y1, y2⟩, _, _, y7⟩ := id S3
    refine K137_47 r1 r2 (TQ_q r3) hs r5 y1 y2 (hE_of S3) ?_
    rw [cx3] at e113 o113 ⊢
    refine hok μ3 m3 l3 e3 As (by rw [← hM2]; exact hM3) (Or.inl (cx2.mp hin)) G3 S3 t3 ?_ e106 (by rw [e113, hAl, hMst]) (fun j hj => (o113 j hj).trans (o2 113 j (by decide))) (fun c j hc z => (fr c j hc (fun y => z (Or.inr y))).trans (o2 c j (fun y => z (Or.inl y)))) fl
    unfold adS
    rw [if_pos (cx2.mp hin)]
    exact hCo
  · show Wp (d + 15) 137 (47, [some (.ref 16), some (.int (zI x)), some (.int (zI (A.length : Int)))], [.int (zI (As.length : Int))], sA μ3 m3 l3) Q
    obtain ⟨⟨r1, r2, r3, r4, r5, r6⟩, ⟨y1, y2⟩, _, _, y7⟩ := id S3
    refine K137_47 r1 r2 (TQ_q r3) hs r5 y1 y2 (hE_of S3) ?_
    have ei : As.length = ixS st sts := by rw [← cx3, ixS_no hin]
    have hni : ¬ st ∈ sts := fun z => hin (cx2.mpr z)
    have e106' : m3 106 1 = ((As ++ [A]).length : Int) := by
      rw [e106, List.length_append, List.length_singleton]
      omega
    rw [ei] at e113 o113 ⊢
    refine hok μ3 m3 l3 e3 (As ++ [A]) (by rw [← hM2]; exact hM3) (Or.inr (by rw [← hCo.1]; exact hl3)) G3 S3 t3 ?_ e106' (by rw [e113, hAl, hMst]) (fun j hj => (o113 j hj).trans (o2 113 j (by decide))) (fun c j hc z => (fr c j hc (fun y => z (Or.inr y))).trans (o2 c j (fun y => z (Or.inl y)))) fl
    unfold adS
    rw [if_neg hni]
    exact CoA_add hCo hA hst hAst (by rw [hAl, hMst])
  · show Q (.inr 3) (sA (am_nX μ3) m3 l3)
    refine hthr μ3 m3 l3 e3 (Or.inr ⟨fun z => hin (cx2.mpr z), by rw [← hCo.1]; exact hl3⟩) G3 S3 (t3.2.2.1.trans hSt.2.2.1.symm) t3.2.2.2.1 (fun c j hc z => (fr c j hc (fun y => z (by
      rcases y with y | y
      · exact Or.inr (Or.inl y)
      · exact Or.inr (Or.inr (Or.inl y))))).trans (o2 c j (fun y => z (Or.inl y)))) fl
end CEN
