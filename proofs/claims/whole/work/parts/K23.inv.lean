/-! ===== the class between calls: its model, its state, what it tells ===== -/
/-- the names without parts stand below a mark -/
def NmB (X : Int → List Int → Prop) (q : Nat) (m : PM) (N0 : Nat) (p : List Cd) : Prop := ∀ w, ((0, w) : Cd) ∈ p → ∃ u : Nat, u < N0 ∧ Cg X q m u [(0, w)]
/-- a term that a state or a move may be -/
def TmC (X : Int → List Int → Prop) (q : Nat) (m : PM) (N0 : Nat) (p : List Cd) : Prop := GdC p ∧ tlC p ≤ 48 ∧ NmB X q m N0 p
/-- the sheet and its model: the terms of the rules stand below N0 -/
def ClB (X : Int → List Int → Prop) (W : Int → Nat) (s : Nat) (rs : List Rul) (q : Nat) (m : PM) (T N0 : Nat) : Prop := (KV X s m rs ∧ (∀ x w, X x w → m (s + 4) (x + 1) - m (s + 4) x = (w.length : Int)) ∧ WdO X W rs ∧ ∀ x w, X x w → W x = wdt rs w) ∧ NmS X (s + 1) m ∧ CtT X q (tN q) (tS q) m T ∧ GrI X q s m N0 (m s 6).toNat ∧ (m 70 4 = ((rlS rs).length : Int) ∧ RwC X q m N0 80 0 (rlS rs)) ∧ N0 ≤ 1000 ∧ (m 98 0 = 0 ∧ m 103 0 = 0)
/-- what is fixed: nothing yet; the facts S0; or it is too great -/
def FzP (X : Int → List Int → Prop) (W : Int → Nat) (s : Nat) (rs : List Rul) (q : Nat) (m : PM) (T N0 K b : Nat) : Prop := (m 70 12 = 0 ∧ K = N0 ∧ T = N0 ∧ FtI W m 0 ∧ ClS s rs m) ∨ (∃ lev F G S0 Tf Fn, FxC X W s rs lev F G N0 m q T Fn S0 Tf ∧ Tf ≤ K ∧ K ≤ Tf + b ∧ N0 ≤ Tf) ∨ (m 70 12 = 2 ∧ ∀ B, BsP B → ¬ Evb rs B)
/-- the state's terms -/
def StC (X : Int → List Int → Prop) (q : Nat) (m : PM) (N0 K : Nat) (st : List (List Cd)) : Prop := SrT st ∧ st.length ≤ 60 ∧ (∀ p, p ∈ st → TmC X q m N0 p) ∧ RwC X q m K 94 0 st
/-- what a view tells of a state -/
def SnI (X : Int → List Int → Prop) (rs : List Rul) (q : Nat) (m : PM) (v N0 K : Nat) (st : List (List Cd)) : Prop := Evb rs (baA 0 st (rlS rs) []) ∧ m v 4 = ((rlS rs).length : Int) ∧ m v 3 = bP (ovO rs (rlS rs) st) ∧ VwI X q m K v (rlS rs).length (mvO rs (rlS rs) st) (glO rs (rlS rs) st) ∧ ∀ r, r < (rlS rs).length → ∀ p, p ∈ mvO rs (rlS rs) st r → TmC X q m N0 p
section CLI
variable {X : Int → List Int → Prop} {W : Int → Nat} {s q q' T T' N0 K : Nat} {rs : List Rul} {m m' : PM} {st : List (List Cd)}
theorem NmB_st {p : List Cd} (cg : ∀ t cs, t < N0 → Cg X q m t cs → Cg X q' m' t cs) (h : NmB X q m N0 p) : NmB X q' m' N0 p := fun w hw => by
  obtain ⟨u, h1, h2⟩ := h w hw
  exact ⟨u, h1, cg u _ h1 h2⟩
theorem TmC_st {p : List Cd} (cg : ∀ t cs, t < N0 → Cg X q m t cs → Cg X q' m' t cs) (h : TmC X q m N0 p) : TmC X q' m' N0 p := ⟨h.1, h.2.1, NmB_st cg h.2.2⟩
theorem GrI_st {T1 : Nat} (k0 : ∀ c j, (s ≤ c ∧ c ≤ s + 19) ∨ c = 81 → m' c j = m c j) (cg : ∀ t cs, t < T1 → Cg X q m t cs → Cg X q' m' t cs) (h : GrI X q s m T1 (m s 6).toNat) : GrI X q' s m' T1 (m' s 6).toNat := fun k hk cs ht hg => by
  rw [k0 s 6 (by omega)] at hk
  have ht' := TcR_cg (m' := m) (fun _ _ z => z) 11 k cs (fun i _ _ => ⟨(k0 _ _ (by omega)).symm, (k0 _ _ (by omega)).symm, (k0 _ _ (by omega)).symm, (k0 _ _ (by omega)).symm⟩) (fun i _ _ => (k0 _ _ (by omega)).symm) ht
  obtain ⟨u, a1, a2, a3⟩ := h k hk cs ht' hg
  exact ⟨u, by rw [k0 _ _ (by omega)]; exact a1, a2, cg u cs a2 a3⟩
theorem ClB_st (k0 : ∀ c j, (s ≤ c ∧ c ≤ s + 19) ∨ c = 80 ∨ c = 81 ∨ (c = 70 ∧ j = 4) ∨ ((c = 98 ∨ c = 103) ∧ j = 0) → m' c j = m c j) (cg : ∀ t cs, t < N0 → Cg X q m t cs → Cg X q' m' t cs) (hC : CtT X q' (tN q') (tS q') m' T') (h : ClB X W s rs q m T N0) : ClB X W s rs q' m' T' N0 := by
  obtain ⟨⟨h1, h2, h3, h4⟩, h5, h6, h7, ⟨h8, h9⟩, h10, h11, h12⟩ := h
  exact ⟨⟨KV_cg (fun c j z => k0 c j (by omega)) h1, fun x w hx => by rw [k0 _ _ (by omega), k0 _ _ (by omega)]; exact h2 x w hx, h3, h4⟩, NmS_cg (fun c j z => k0 c j (by omega)) h5, hC, GrI_st (fun c j z => k0 c j (by omega)) cg h7, ⟨by rw [k0 _ _ (by omega)]; exact h8, RwC_st (Nat.le_refl _) (fun j _ _ => k0 _ _ (by omega)) cg h9⟩, h10, by rw [k0 _ _ (by omega)]; exact h11, by rw [k0 _ _ (by omega)]; exact h12⟩
theorem StC_st (hN : N0 ≤ K) (k0 : ∀ j : Int, 0 ≤ j → j < (st.length : Int) → m' 94 j = m 94 j) (cg : ∀ t cs, t < K → Cg X q m t cs → Cg X q' m' t cs) (h : StC X q m N0 K st) : StC X q' m' N0 K st := ⟨h.1, h.2.1, fun p hp => TmC_st (fun t cs ht => cg t cs (by omega)) (h.2.2.1 p hp), RwC_st (Nat.le_refl _) (fun j j1 j2 => k0 j j1 (by omega)) cg h.2.2.2⟩
theorem SnI_st {v : Nat} (hN : N0 ≤ K) (k0 : ∀ c j, (v ≤ c ∧ c ≤ v + 3) → m' c j = m c j) (cg : ∀ t cs, t < K → Cg X q m t cs → Cg X q' m' t cs) (h : SnI X rs q m v N0 K st) : SnI X rs q' m' v N0 K st := by
  obtain ⟨h1, h2, h3, h4, h5⟩ := h
  exact ⟨h1, by rw [k0 _ _ (by omega)]; exact h2, by rw [k0 _ _ (by omega)]; exact h3, VwI_st (Nat.le_refl _) (fun c j c1 c2 => k0 c j (by omega)) cg h4, fun r hr p hp => TmC_st (fun t cs ht => cg t cs (by omega)) (h5 r hr p hp)⟩
/-- what follows is made of such terms, where what is given is -/
theorem ev_tm {B S : List Atm} (hg : GoS rs) (hv : KV X s m rs) (hG : GrI X q s m N0 (m s 6).toNat) (h : EvG rs B S) (hF : FtS X q W m T S) (hne : ∀ a, a ∈ S → ∀ p, p ∈ a.2 → tlC p ≤ 48 ∧ NeC p) (hB : ∀ b, b ∈ B → ∀ p, p ∈ b.2 → NmB X q m N0 p) : ∀ a, a ∈ S → ∀ p, p ∈ a.2 → TmC X q m N0 p := by
  intro a ha p hp
  obtain ⟨i, hi, ei⟩ := (mem_gD S ([], []) a).mp ha
  obtain ⟨_, _, _, f4⟩ := hF i hi
  rw [ei] at f4
  obtain ⟨k, hk, ek⟩ := (mem_gD a.2 [] p).mp hp
  obtain ⟨u, _, _, cu⟩ := f4 k hk
  rw [ek] at cu
  obtain ⟨n1, n2⟩ := hne a ha p hp
  refine ⟨Cg_gd cu n2, n1, fun w hw => ?_⟩
  rcases nm_occ hg h a ha p hp w hw with y | ⟨b, hb, p', hp', hw'⟩
  · exact nm_rl hv hG y
  · exact hB b hb p' hp' w hw'
theorem bS_m {a : Atm} {st : List (List Cd)} (h : a ∈ baS st) : ∃ t, t ∈ st ∧ a = (wdL.getD 4 [], [t]) := by
  obtain ⟨t, t1, t2⟩ := List.mem_map.mp h
  exact ⟨t, t1, t2.symm⟩
theorem bM_m {a : Atm} {L ch : List (List Cd)} {n : Nat} (h : a ∈ baM L ch n) : ∃ r, r < n ∧ a = (wdL.getD 5 [], [L.getD r [], ch.getD r []]) := by
  obtain ⟨r, r1, r2⟩ := List.mem_map.mp h
  exact ⟨r, List.mem_range.mp r1, r2.symm⟩
/-- the terms of what is given -/
theorem ba_tm {P : List Cd → Prop} {L ch st : List (List Cd)} {n : Nat} (h1 : ∀ t, t ∈ st → P t) (h2 : ∀ r, r < n → P (L.getD r []) ∧ P (ch.getD r [])) : ∀ b, b ∈ baS st ++ baM L ch n → ∀ p, p ∈ b.2 → P p := by
  intro b hb p hp
  rcases List.mem_append.mp hb with hb | hb
  · obtain ⟨t, t1, e⟩ := bS_m hb
    rw [e] at hp
    rw [List.mem_singleton.mp hp]
    exact h1 t t1
  · obtain ⟨r, r1, e⟩ := bM_m hb
    rw [e] at hp
    rcases List.mem_cons.mp hp with y | y
    · rw [y]; exact (h2 r r1).1
    · rw [List.mem_singleton.mp y]; exact (h2 r r1).2
theorem ba_0 (st L ch : List (List Cd)) : baS st ++ baM L ch 0 = baA 0 st L [] := rfl
theorem ba_1 (st L ch : List (List Cd)) : baS st ++ baM L ch L.length = baA 1 st L ch := rfl
theorem mv_O {S : List Atm} {L : List (List Cd)} (hg : GoS rs) (h : EvG rs (baA 0 st L []) S) : mvS S L = mvO rs L st := funext fun r => congrArg lsO (funext fun t => propext (Ev_hld hg h (wdL.getD 6 [], [L.getD r [], t])).symm)
theorem gl_O {S : List Atm} {L : List (List Cd)} (hg : GoS rs) (h : EvG rs (baA 0 st L []) S) : glS S L = glO rs L st := funext fun r => congrArg (fun P => Classical.epsilon (GlI P)) (funext fun t => propext (Ev_hld hg h (wdL.getD 8 [], [L.getD r [], t])).symm)
theorem RwC_app {c : Nat} {b : Int} {A A' : List (List Cd)} (h : RwC X q m T c b A) (h' : RwC X q m T c (b + (A.length : Int)) A') : RwC X q m T c b (A ++ A') := fun i hi => by
  rw [List.length_append] at hi
  by_cases y : i < A.length
  · rw [gD_app y]
    exact h i y
  · obtain ⟨u, u1, u2, u3⟩ := h' (i - A.length) (by omega)
    rw [List.getD_eq_getElem?_getD, List.getElem?_append_right (by omega), ← List.getD_eq_getElem?_getD]
    exact ⟨u, by rw [← u1, show b + (A.length : Int) + ((i - A.length : Nat) : Int) = b + (i : Int) by omega], u2, u3⟩
theorem RwC_a1 {c : Nat} {b : Int} {A A' : List (List Cd)} (h : RwC X q m T c b (A ++ A')) : RwC X q m T c b A := fun i hi => by
  have z := h i (by rw [List.length_append]; omega)
  rw [gD_app hi] at z
  exact z
theorem RwC_a2 {c : Nat} {b : Int} {A A' : List (List Cd)} (h : RwC X q m T c b (A ++ A')) : RwC X q m T c (b + (A.length : Int)) A' := fun i hi => by
  obtain ⟨u, u1, u2, u3⟩ := h (A.length + i) (by rw [List.length_append]; omega)
  rw [List.getD_eq_getElem?_getD, List.getElem?_append_right (by omega), ← List.getD_eq_getElem?_getD, show A.length + i - A.length = i by omega] at u3
  exact ⟨u, by rw [← u1, show b + (A.length : Int) + (i : Int) = b + ((A.length + i : Nat) : Int) by omega], u2, u3⟩
/-- all moves in a row -/
def alM (mv : Nat → List (List Cd)) : Nat → List (List Cd)
  | 0 => []
  | r + 1 => alM mv r ++ mv r
theorem alM_l (mv : Nat → List (List Cd)) : ∀ n, (alM mv n).length = pfs mv n := by
  intro n
  induction n with
  | zero => rfl
  | succ n ih =>
    show (alM mv n ++ mv n).length = pfs mv n + (mv n).length
    rw [List.length_append, ih]
theorem alM_m {mv : Nat → List (List Cd)} {p : List Cd} : ∀ {n : Nat}, p ∈ alM mv n → ∃ r, r < n ∧ p ∈ mv r := by
  intro n
  induction n with
  | zero => intro h; exact absurd h List.not_mem_nil
  | succ n ih =>
    intro h
    rcases List.mem_append.mp (show p ∈ alM mv n ++ mv n from h) with h | h
    · obtain ⟨r, r1, r2⟩ := ih h
      exact ⟨r, by omega, r2⟩
    · exact ⟨n, by omega, h⟩
theorem alM_r {mv : Nat → List (List Cd)} {c : Nat} : ∀ {n : Nat}, (∀ r : Nat, r < n → RwC X q m T c (pfs mv r : Int) (mv r)) → RwC X q m T c 0 (alM mv n) := by
  intro n
  induction n with
  | zero => intro _ i hi; exact absurd hi (Nat.not_lt_zero _)
  | succ n ih =>
    intro h
    refine RwC_app (ih (fun r hr => h r (by omega))) ?_
    have z := h n (by omega)
    rw [alM_l, Int.zero_add]
    exact z
theorem alM_b {mv : Nat → List (List Cd)} {c : Nat} : ∀ {n : Nat}, RwC X q m T c 0 (alM mv n) → ∀ r : Nat, r < n → RwC X q m T c (pfs mv r : Int) (mv r) := by
  intro n
  induction n with
  | zero => intro _ r hr; exact absurd hr (Nat.not_lt_zero _)
  | succ n ih =>
    intro h r hr
    have h' : RwC X q m T c 0 (alM mv n ++ mv n) := h
    by_cases y : r = n
    · have z := RwC_a2 h'
      rw [alM_l, Int.zero_add] at z
      rw [y]
      exact z
    · exact ih (RwC_a1 h') r (by omega)
theorem sum_11 {L : List (List Cd)} (h : ∀ p, p ∈ L → GdC p ∧ tlC p ≤ 48) : (L.map nIn).sum ≤ 11 * L.length := by
  induction L with
  | nil => exact Nat.le_refl _
  | cons p L ih =>
    obtain ⟨⟨⟨f, hf⟩, hg, hn⟩, h48⟩ := h p List.mem_cons_self
    have a := in_11 hf hg hn h48
    have b := ih (fun p' hp' => h p' (List.mem_cons_of_mem _ hp'))
    rw [List.map_cons, List.sum_cons, List.length_cons]
    omega
end CLI
