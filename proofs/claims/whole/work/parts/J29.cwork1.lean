/-! ===== the class at work: workOut, the state and the moves are given ===== -/
/-- a step of the class that may also set its work -/
def Ksw (X : Int → List Int → Prop) (Wf : Nat → Int → Prop) (T : Nat) (μ : am_Mem) (q : Nat) (m l : PM) (μ' : am_Mem) (q' : Nat) (m' l' : PM) : Prop := Gw μ q μ' q' ∧ (∀ c j, c < am_n μ → (¬ Wf c j → m' c j = m c j) ∧ (¬ (c = 70 ∧ j = 16) → l' c j = l c j)) ∧ ∀ t cs, t < T → Cg X q m t cs → Cg X q' m' t cs
/-- a row holds terms -/
def RwC (X : Int → List Int → Prop) (q : Nat) (m : PM) (T c : Nat) (b : Int) (st : List (List Cd)) : Prop := ∀ i : Nat, i < st.length → ∃ u : Nat, m c (b + (i : Int)) = (u : Int) ∧ u < T ∧ Cg X q m u (st.getD i [])
/-- what giving atoms writes -/
abbrev WGv (c : Nat) (j : Int) : Prop := c = 79 ∨ (72 ≤ c ∧ c ≤ 78) ∨ (c = 71 ∧ j = 7)
theorem wd_true : wdC.getD 2 [] = wdL.getD 4 [] := rfl
theorem wd_does : wdC.getD 4 [] = wdL.getD 5 [] := rfl
theorem wd_init : wdC.getD 1 [] = wdL.getD 3 [] := rfl
theorem wd_next : wdC.getD 3 [] = wdL.getD 7 [] := rfl
theorem wd_legal : wdC.getD 5 [] = wdL.getD 6 [] := rfl
theorem wd_goal : wdC.getD 6 [] = wdL.getD 8 [] := rfl
theorem wd_term : wdC.getD 7 [] = wdL.getD 9 [] := rfl
section CWK
variable {d : Nat} {Q : Option Value ⊕ Nat → am_Mem → Prop} {X : Int → List Int → Prop} {W : Int → Nat} {s k C0 : Nat} {rs : List Rul} {S S0 : List Atm} {lev : List Int → Nat} {μ : am_Mem} {m l : PM} {q T : Nat}
theorem Ksw_of {Wf : Nat → Int → Prop} {μ' : am_Mem} {m' l' : PM} {q' : Nat} (h : Kst X Wf T μ q m l μ' q' m' l') : Ksw X Wf T μ q m l μ' q' m' l' := ⟨h.1, fun c j hc => ⟨(h.2.1 c j hc).1, fun _ => (h.2.1 c j hc).2⟩, h.2.2⟩
theorem Ksw_r {Wf : Nat → Int → Prop} : Ksw X Wf T μ q m l μ q m l := Ksw_of Kst_r
theorem Ksw_t {W1 W2 Wf : Nat → Int → Prop} {T1 q1 q2 : Nat} {μ1 μ2 : am_Mem} {m1 l1 m2 l2 : PM} (hS : ShW s μ q) (hT : T ≤ T1) (i1 : ∀ c j, c < am_n μ → W1 c j → Wf c j) (i2 : ∀ c j, c < am_n μ → W2 c j → Wf c j) (h1 : Ksw X W1 T μ q m l μ1 q1 m1 l1) (h2 : Ksw X W2 T1 μ1 q1 m1 l1 μ2 q2 m2 l2) : Ksw X Wf T μ q m l μ2 q2 m2 l2 := by
  obtain ⟨a1, a2, a3⟩ := h1
  obtain ⟨b1, b2, b3⟩ := h2
  have hn := Gw_n a1
  refine ⟨Gw_t hS a1 b1, fun c j hc => ⟨fun hw => ?_, fun hl => ?_⟩, fun t cs ht h => b3 t cs (by omega) (a3 t cs ht h)⟩
  · exact ((b2 c j (by omega)).1 (fun z => hw (i2 c j hc z))).trans ((a2 c j hc).1 (fun z => hw (i1 c j hc z)))
  · exact ((b2 c j (by omega)).2 hl).trans ((a2 c j hc).2 hl)
theorem RwC_st {m' : PM} {q' T' c : Nat} {b : Int} {st : List (List Cd)} (hT : T ≤ T') (e : ∀ j, b ≤ j → j < b + (st.length : Int) → m' c j = m c j) (cg : ∀ t cs, t < T → Cg X q m t cs → Cg X q' m' t cs) (h : RwC X q m T c b st) : RwC X q' m' T' c b st := fun i hi => by
  obtain ⟨u, a1, a2, a3⟩ := h i hi
  exact ⟨u, by rw [e _ (by omega) (by omega)]; exact a1, by omega, cg u _ a2 a3⟩
/-- an atom is given -/
theorem k_give {x : Int} {c : Nat} {w : List Int} {qs : List (List Cd)} (hS : ShW s μ q) (hs : s = 22 ∨ s = 42) (hW : CwW X W s rs m q T S) (hx : X x w) (hc : qs.length = c) (hl : c ≤ 4) (hWx : W x = c) (row : ∀ j : Nat, j < qs.length → ∃ u : Nat, m 79 (j : Int) = (u : Int) ∧ u < T ∧ Cg X q m u (qs.getD j [])) (hno : ¬ (w, qs) ∈ S)
    (hX : S.length = 1000 → Q (.inr 3) (sA (am_nX μ) m l))
    (hn : S.length < 1000 → ∀ m' : PM, CwW X W s rs m' q T (S ++ [(w, qs)]) → (∀ t cs, t < T → Cg X q m t cs → Cg X q m' t cs) → (∀ c j, ¬ ((72 ≤ c ∧ c ≤ 78) ∨ (c = 71 ∧ j = 7)) → m' c j = m c j) → Q (.inl none) (sA μ m' l)) :
    Wp (d + 1) 31 (0, [some (.ref 71), some (.int (zI x)), some (.int (zI (c : Int))), none, none], [], sA μ m l) Q := by
  obtain ⟨s1, s2, s3, s4, s5, s6⟩ := id hS
  obtain ⟨w1, w2, w3, w4, w5, w6, w7⟩ := id hW
  have hXP := w1.2.1
  have hx0 := (hXP.1 _ _ hx).1
  have hx1 := w1.2.2.1.1 _ _ hx
  have hTN := w4.1.2.1
  have h58 := tN_le q
  have iff : ∀ f, f < S.length → (isF m f x (sl (m 79) 0 c) ↔ S.getD f ([], []) = (w, qs)) := fun f hf => by
    have z := isF_iff (qs := qs) hXP w4 w7 hf hx (by rw [hc]; exact hWx) row
    rw [hc] at z
    exact z
  refine k_add s1 w6 (FtS_P w7) (by omega) ⟨hx0, hx1⟩ hl hWx (fun j hj => ?_) (fun f hf h => absurd ?_ hno) (fun _ h => hX h) (fun h1 h2 m' hF hi fr => ?_)
  · obtain ⟨u, b1, b2, _⟩ := row j (by omega)
    omega
  · rw [← (iff f hf).mp h]
    exact gD_in hf
  · have z := CwW_add hS hs hW hx (by omega) (by rw [hc]; exact hWx) row hF (by rw [hc]; exact hi) fr
    exact hn h2 m' z.1 z.2 (fun c j y => fr c j (wfa_o y))
/-- the row of an atom that is given -/
theorem gv_79 {m1 : PM} (f : ∀ c j, ¬ c = 79 → m1 c j = m c j) (hS : ShW s μ q) (hs : s = 22 ∨ s = 42) (hW : CwW X W s rs m q T S) : CwW X W s rs m1 q T S ∧ ∀ t cs, t < T → Cg X q m t cs → Cg X q m1 t cs := by
  have hq := hS.2.2.1
  have cg : ∀ t cs, t < T → Cg X q m t cs → Cg X q m1 t cs := fun t cs ht h => CgR_cg (T := T) (fun t _ => ⟨f _ _ (by omega), f _ _ (by omega), fun i _ => f _ _ (by omega)⟩) _ t cs ht h
  exact ⟨CwW_st hs hW (CtT_fr (fun c j z => f c j (by omega)) hW.2.2.2.1) (Nat.le_refl _) (fun c j z1 z2 => f c j (by omega)) (fun j => f _ j (by decide)) (fun c j z => f c j (by omega)) cg, cg⟩
/-- the atoms given so far -/
def GvI (X : Int → List Int → Prop) (W : Int → Nat) (s : Nat) (rs : List Rul) (lev : List Int → Nat) (F : Nat) (Bs : List Atm) (m0 m : PM) (q T : Nat) (S : List Atm) : Prop := CwW X W s rs m q T S ∧ Prt rs Bs lev (F + 1) S ∧ (∀ t cs, t < T → Cg X q m0 t cs → Cg X q m t cs) ∧ ∀ c j, ¬ WGv c j → m c j = m0 c j
theorem gv_step {F : Nat} {Bs : List Atm} {m0 m1 m2 : PM} {a : Atm} (hL : LvO lev rs) (h : GvI X W s rs lev F Bs m0 m q T S) (f1 : ∀ c j, ¬ c = 79 → m1 c j = m c j) (cg1 : ∀ t cs, t < T → Cg X q m t cs → Cg X q m1 t cs) (hW2 : CwW X W s rs m2 q T (S ++ [a])) (cg2 : ∀ t cs, t < T → Cg X q m1 t cs → Cg X q m2 t cs) (f2 : ∀ c j, ¬ ((72 ≤ c ∧ c ≤ 78) ∨ (c = 71 ∧ j = 7)) → m2 c j = m1 c j) (hB : a ∈ Bs) (hlv : lev a.1 = F + 1) (hn : ¬ a ∈ S) : GvI X W s rs lev F Bs m0 m2 q T (S ++ [a]) := by
  obtain ⟨h1, h2, h3, h4⟩ := h
  exact ⟨hW2, Prt_add hL h2 (by omega) hn (Or.inl hB), fun t cs ht z => cg2 t cs ht (cg1 t cs ht (h3 t cs ht z)), fun c j z => (f2 c j (by omega)).trans ((f1 c j (by omega)).trans (h4 c j z))⟩
end CWK
