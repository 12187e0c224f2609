/-! ===== the class at work: its state; reserve, lookUp ===== -/
/-- the facts are these atoms -/
def FtS (X : Int → List Int → Prop) (q : Nat) (W : Int → Nat) (m : PM) (T : Nat) (S : List Atm) : Prop := ∀ i : Nat, i < S.length → X (m 72 i) (S.getD i ([], [])).1 ∧ (S.getD i ([], [])).2.length = W (m 72 i) ∧ (S.getD i ([], [])).2.length ≤ 4 ∧ ∀ k : Nat, k < (S.getD i ([], [])).2.length → ∃ u : Nat, m 73 (4 * (i : Int) + k) = (u : Int) ∧ u < T ∧ Cg X q m u ((S.getD i ([], [])).2.getD k [])
/-- how many parts the relations have -/
def WdO (X : Int → List Int → Prop) (W : Int → Nat) (rs : List Rul) : Prop := ∀ ru, ru ∈ rs → (∀ x, X x ru.1.1 → W x = ru.1.2.length) ∧ ∀ c, c ∈ ru.2 → c.1 < 3 → ∀ x, X x c.2.1 → W x = c.2.2.length
/-- the class at work over the rules rs: T terms, the atoms S -/
def CwW (X : Int → List Int → Prop) (W : Int → Nat) (s : Nat) (rs : List Rul) (m : PM) (q T : Nat) (S : List Atm) : Prop := KV X s m rs ∧ (∀ x w, X x w → m (s + 4) (x + 1) - m (s + 4) x = (w.length : Int)) ∧ WdO X W rs ∧ CtT X q (tN q) (tS q) m T ∧ GrI X q s m T (m s 6).toNat ∧ FtI W m S.length ∧ FtS X q W m T S
/-- a step of the class: what it may write of the cells that were there -/
def Kst (X : Int → List Int → Prop) (Wf : Nat → Int → Prop) (T : Nat) (μ : am_Mem) (q : Nat) (m l : PM) (μ' : am_Mem) (q' : Nat) (m' l' : PM) : Prop := Gw μ q μ' q' ∧ (∀ c j, c < am_n μ → (¬ Wf c j → m' c j = m c j) ∧ l' c j = l c j) ∧ ∀ t cs, t < T → Cg X q m t cs → Cg X q' m' t cs
/-- what looking up writes -/
abbrev WLu (q c : Nat) (j : Int) : Prop := c = 79 ∨ c = 82 ∨ c = 93 ∨ (q ≤ c ∧ c ≤ q + 7) ∨ (c = 84 ∧ j = 9)
theorem q_n {s q : Nat} {μ : am_Mem} (hS : ShW s μ q) : (q = 85 ∨ 185 ≤ q) ∧ q + 8 ≤ am_n μ ∧ 185 ≤ am_n μ := ⟨hS.2.2.1, hS.2.2.2.1.2, hS.2.2.2.1.1⟩
section CWA
variable {d : Nat} {μ : am_Mem} {m l : PM} {Q : Option Value ⊕ Nat → am_Mem → Prop} {X : Int → List Int → Prop} {W : Int → Nat} {q s T : Nat} {rs : List Rul} {S : List Atm}
theorem Kst_r {Wf : Nat → Int → Prop} : Kst X Wf T μ q m l μ q m l := ⟨Gw_r, fun _ _ _ => ⟨fun _ => rfl, rfl⟩, fun _ _ _ h => h⟩
theorem Kst_t {W1 W2 Wf : Nat → Int → Prop} {T1 q1 q2 : Nat} {μ1 μ2 : am_Mem} {m1 l1 m2 l2 : PM} (hS : ShW s μ q) (hT : T ≤ T1) (i1 : ∀ c j, c < am_n μ → W1 c j → Wf c j) (i2 : ∀ c j, c < am_n μ → W2 c j → Wf c j) (h1 : Kst X W1 T μ q m l μ1 q1 m1 l1) (h2 : Kst X W2 T1 μ1 q1 m1 l1 μ2 q2 m2 l2) : Kst X Wf T μ q m l μ2 q2 m2 l2 := by
  obtain ⟨a1, a2, a3⟩ := h1
  obtain ⟨b1, b2, b3⟩ := h2
  have hn := Gw_n a1
  refine ⟨Gw_t hS a1 b1, fun c j hc => ⟨fun hw => ?_, ?_⟩, fun t cs ht h => b3 t cs (by omega) (a3 t cs ht h)⟩
  · exact ((b2 c j (by omega)).1 (fun z => hw (i2 c j hc z))).trans ((a2 c j hc).1 (fun z => hw (i1 c j hc z)))
  · exact ((b2 c j (by omega)).2).trans ((a2 c j hc).2)
theorem wlu_i {q1 : Nat} {μ1 : am_Mem} (hS : ShW s μ q) (h : Gw μ q μ1 q1) : ∀ c j, c < am_n μ → WLu q1 c j → WLu q c j := by
  intro c j hc z
  have := Gw_q hS h
  omega
theorem k_reserve {c : Nat} (hS : ShW s μ q) (hI : CtT X q (tN q) (tS q) m T) (hb : T + c ≤ 58192)
    (h : ∀ (μ' : am_Mem) (m' l' : PM) (q' : Nat), Gw μ q μ' q' → CtT X q' (tN q') (tS q') m' T → T + c ≤ tN q' → (∀ c j, c < am_n μ → m' c j = m c j ∧ l' c j = l c j) → (∀ t cs, t < T → Cg X q m t cs → Cg X q' m' t cs) → Q (.inl none) (sA μ' m' l')) :
    Wp (d + 2) 92 (0, [some (.ref 84), some (.int (zI (c : Int)))], [], sA μ m l) Q := by
  obtain ⟨s1, s2, s3, s4, s5, s6⟩ := id hS
  have e9 := hI.1.1
  have hN := hI.1.2.1
  have h58 := tN_le q
  refine K92_0 s1 s2 (TQ_q s3) ?_
  rw [e9]
  refine ⟨⟨by omega, by omega⟩, ⟨by omega, by omega⟩, fun z => ⟨fun _ => h μ m l q Gw_r hI (by omega) (fun _ _ _ => ⟨rfl, rfl⟩) (fun _ _ _ h => h), fun w => absurd z w⟩, fun z => ⟨fun y => ⟨fun w => absurd w z, fun _ => absurd y (by omega)⟩, fun y => ?_⟩⟩
  have e85 : q = 85 := by
    rcases s3 with e | e
    · exact e
    · rw [tN_g e] at y
      omega
  have hG : Gw μ q (grM μ) (am_n μ) := Or.inr ⟨rfl, e85, rfl⟩
  have hS' := Gw_S hS hG
  obtain ⟨t1, t2, t3, t4, t5, t6⟩ := id hS'
  rw [e85] at hI s2
  refine ⟨fun μ' => Wp (d + 2) 92 (28, [some (.ref 84), some (.int (zI (c : Int)))], [], μ') Q, noX, ?_, fun _ z => z, fun _ _ z => z.elim⟩
  refine k_grow s1 s2 s4.1 hI (fun m' l' c1 c2 c3 => ?_)
  show Wp (d + 2) 92 (28, _, [], _) Q
  rw [← tN_g s4.1, ← tS_g s4.1] at c1
  have e9' := c1.1.1
  refine K92_28 t1 t2 (TQ_q t3) ?_
  rw [e9', tN_g s4.1]
  refine ⟨⟨by omega, by omega⟩, ⟨by omega, by omega⟩, fun _ => h _ m' l' (am_n μ) hG c1 (by rw [tN_g s4.1]; exact hb) c2 (by rw [e85]; exact c3), fun w => absurd w (by omega)⟩
/-- the state stays -/
theorem CwW_st {m' : PM} {q' T' : Nat} (hs : s = 22 ∨ s = 42) (hW : CwW X W s rs m q T S) (hC : CtT X q' (tN q') (tS q') m' T') (hT : T ≤ T') (k1 : ∀ c j, s ≤ c → c ≤ s + 19 → m' c j = m c j) (k2 : ∀ j, m' 81 j = m 81 j) (k3 : ∀ c j, (72 ≤ c ∧ c ≤ 78) ∨ (c = 71 ∧ j = 7) → m' c j = m c j) (cg : ∀ t cs, t < T → Cg X q m t cs → Cg X q' m' t cs) : CwW X W s rs m' q' T' S := by
  obtain ⟨h1, h2, h3, h4, h5, h6, h7⟩ := hW
  have e72 : m' 72 = m 72 := funext fun j => k3 _ _ (by omega)
  have e73 : m' 73 = m 73 := funext fun j => k3 _ _ (by omega)
  have e74 : m' 74 = m 74 := funext fun j => k3 _ _ (by omega)
  have e75 : m' 75 = m 75 := funext fun j => k3 _ _ (by omega)
  have e76 : m' 76 = m 76 := funext fun j => k3 _ _ (by omega)
  have e77 : m' 77 = m 77 := funext fun j => k3 _ _ (by omega)
  have e78 : m' 78 = m 78 := funext fun j => k3 _ _ (by omega)
  have e7 : m' 71 7 = m 71 7 := k3 _ _ (by omega)
  refine ⟨KV_cg (fun c j z => k1 c j (by omega) (by omega)) h1, fun x w hx => ?_, h3, hC, fun k hk cs ht hg => ?_, ?_, fun i hi => ?_⟩
  · rw [k1 _ _ (by omega) (by omega), k1 _ _ (by omega) (by omega)]
    exact h2 x w hx
  · rw [k1 s 6 (by omega) (by omega)] at hk
    have ht' := TcR_cg (m' := m) (fun _ _ z => z) 11 k cs (fun i _ _ => ⟨(k1 _ _ (by omega) (by omega)).symm, (k1 _ _ (by omega) (by omega)).symm, (k1 _ _ (by omega) (by omega)).symm, (k1 _ _ (by omega) (by omega)).symm⟩) (fun i _ _ => (k1 _ _ (by omega) (by omega)).symm) ht
    obtain ⟨u, a1, a2, a3⟩ := h5 k hk cs ht' hg
    exact ⟨u, by rw [k2]; exact a1, by omega, cg u cs a2 a3⟩
  · unfold FtI
    rw [e7, e72, e73, e74, e75, e76, e77, e78]
    exact h6
  · obtain ⟨a1, a2, a3, a4⟩ := h7 i hi
    rw [e72]
    refine ⟨a1, a2, a3, fun k hk => ?_⟩
    obtain ⟨u, b1, b2, b3⟩ := a4 k hk
    exact ⟨u, by rw [e73]; exact b1, by omega, cg u _ b2 b3⟩
theorem FtS_P (h : FtS X q W m T S) : FtP W m S.length (T : Int) := fun f hf => by
  obtain ⟨a1, a2, a3, a4⟩ := h f hf
  refine ⟨by rw [← a2]; exact a3, fun k hk => ?_⟩
  obtain ⟨u, b1, b2, _⟩ := a4 k (by rw [a2]; exact hk)
  rw [b1]
  omega
/-- the fact of a row is the atom of the row's terms -/
theorem isF_iff {N SS : Nat} {f : Nat} {x : Int} {w : List Int} {qs : List (List Cd)} (hX : XP X) (hT : CtT X q N SS m T) (hF : FtS X q W m T S) (hf : f < S.length) (hx : X x w) (hW : W x = qs.length) (row : ∀ j : Nat, j < qs.length → ∃ u : Nat, m 79 (j : Int) = (u : Int) ∧ u < T ∧ Cg X q m u (qs.getD j [])) : isF m f x (sl (m 79) 0 qs.length) ↔ S.getD f ([], []) = (w, qs) := by
  obtain ⟨a1, a2, a3, a4⟩ := hF f hf
  constructor
  · rintro ⟨b1, b2⟩
    rw [sl_len] at b2
    rw [b1] at a1 a2
    have ew : (S.getD f ([], [])).1 = w := hX.2.1 x _ _ a1 hx
    have el : (S.getD f ([], [])).2.length = qs.length := a2.trans hW
    refine Prod.ext ew (List.ext_getElem el (fun k k1 k2 => ?_))
    obtain ⟨u, c1, c2, c3⟩ := a4 k k1
    obtain ⟨u', d1, d2, d3⟩ := row k k2
    have e := (sl_eq.mp b2).2 k k2
    rw [show (0 : Int) + (k : Int) = (k : Int) by omega, c1, d1] at e
    have eu : u = u' := by omega
    rw [eu] at c3
    have z := CgR_fun hX _ _ _ _ _ c3 d3
    have g : ∀ (L : List (List Cd)) (h : k < L.length), L.getD k [] = L[k] := fun L h => by
      rw [List.getD_eq_getElem?_getD, List.getElem?_eq_getElem h]
      rfl
    exact (g _ k1).symm.trans (z.trans (g _ k2))
  · intro e
    rw [e] at a1 a2 a4
    have ex : m 72 (f : Int) = x := hX.2.2.1 _ _ w a1 hx
    refine ⟨ex, ?_⟩
    rw [sl_len]
    refine sl_eq.mpr ⟨rfl, fun k hk => ?_⟩
    obtain ⟨u, c1, c2, c3⟩ := a4 k hk
    obtain ⟨u', d1, d2, d3⟩ := row k hk
    rw [show (0 : Int) + (k : Int) = (k : Int) by omega, c1, d1]
    have := Cg_in hX hT.2.1 c2 d2 c3 d3
    omega
end CWA
