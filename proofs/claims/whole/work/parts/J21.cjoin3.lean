/-! ===== the class at work: join, its loop ===== -/
theorem up_self {m : PM} {c : Nat} {i v : Int} (h : m c i = v) : up m c i v = m := by
  funext c' i'
  by_cases z : c' = c ∧ i' = i
  · rw [z.1, z.2, up_s]
    exact h.symm
  · exact up_o z
theorem cnF_last {r : Int → Int} {x : Int} {c : Nat} (e : r c = x) : ∀ g : Nat, c < g → (∀ j : Nat, c < j → j < g → ¬ r j = x) → cnF r x g = cnF r x c + 1 := by
  intro g
  induction g with
  | zero => intro h; exact absurd h (Nat.not_lt_zero c)
  | succ g ih =>
    intro h hno
    show cnF r x g + (if r g = x then 1 else 0) = cnF r x c + 1
    by_cases z : c = g
    · rw [← z, if_pos e]
    · rw [if_neg (hno g (by omega) (by omega)), ih (by omega) (fun j h1 h2 => hno j h1 (by omega))]
      omega
section CJ3
variable {d : Nat} {l : PM} {Q : Option Value ⊕ Nat → am_Mem → Prop} {X : Int → List Int → Prop} {W : Int → Nat} {s k C0 r lv : Nat} {rs : List Rul} {B : List Atm → Prop} {S0 : List Atm} {lev : List Int → Nat} {gv nw : Int} {b : Nat → Option (List Cd)}
theorem Cmj_s {pos : List Atm} {β : Nat → List Cd} (h : Cmj pos S0 gv nw lv β) : Cmj pos S0 gv nw (lv + 1) β := fun i i0 i1 i2 => h i (by omega) i1 i2
/-- the relations' numbers of the atoms stay -/
theorem fx72 {m m' : PM} {q q' T T' : Nat} {S S' : List Atm} (hX : XP X) (hF : FtS X q W m T S) (hF' : FtS X q' W m' T' S') (hx : ExS lev k S S') : ∀ i : Nat, i < S.length → m' 72 i = m 72 i := fun i hi => by
  have a := (hF i hi).1
  have b := (hF' i (by have := ExS_l hx; omega)).1
  rw [ExS_g hx hi] at b
  exact hX.2.2.1 _ _ _ b a
/-- the node of a positive condition -/
theorem nd_pos {m : PM} (h : KV X s m rs) (hr : r < rs.length) {j kn : Nat} (hj : j < (posR (rs.getD r ruD)).length) (ek : m (s + 12) (8 * (r : Int) + (j : Int)) = (kn : Int)) : (kn < 1000 ∧ (kn : Int) < m s 6) ∧ 0 ≤ (kn : Int) - (((posR (rs.getD r ruD)).getD j ([], [])).2.flatten.length : Int) ∧ NdC X s 11 m kn (fun x => X x ((posR (rs.getD r ruD)).getD j ([], [])).1) ((posR (rs.getD r ruD)).getD j ([], [])).2 ∧ OkA ((posR (rs.getD r ruD)).getD j ([], [])) ∧ (X (m (s + 6) kn) ((posR (rs.getD r ruD)).getD j ([], [])).1 ∧ (0 ≤ m (s + 6) kn ∧ m (s + 6) kn < 1024)) ∧ ∃ c, c ∈ (rs.getD r ruD).2 ∧ c.1 = 1 ∧ c.2 = (posR (rs.getD r ruD)).getD j ([], []) := by
  rw [posR_l] at hj
  obtain ⟨p1, p2, p3⟩ := KV_pos h hr hj
  rw [ek] at p3
  obtain ⟨c1, c2, c3, c4, c5, _⟩ := KV_cond h hr p1 p3
  rw [posR_g hj]
  obtain ⟨A1, A2, A3⟩ := p3
  have hl := (c5 (by omega)).1
  exact ⟨⟨by omega, A1⟩, A2, ⟨hl, A3.2⟩, c1.1, ⟨hl, c3⟩, _, p1, p2, rfl⟩
/-- bound is set back -/
theorem JnG_up {μ0 μ : am_Mem} {m0 l0 m m1 : PM} {q0 T0 q T : Nat} {S1 S : List Atm} (hs : s = 22 ∨ s = 42) (h0 : ShW s μ0 q0) (hS : ShW s μ q) (hK : Kst X (WJn q0) T0 μ0 q0 m0 l0 μ q m l) (hT : T0 ≤ T) (hE : EvC X W s rs B lev k C0 m q T S) (hx : ExS lev k S1 S) (hB : BdC X q m T b) (e1 : m1 = up m 70 8 (m0 70 8)) : JnG X W s rs B lev k C0 μ0 m0 l0 q0 T0 S1 b μ m1 l q T S := by
  have f : ∀ c j, ¬ (c = 70 ∧ j = 8) → m1 c j = m c j := fun c j z => by rw [e1]; exact up_o z
  have cg : ∀ t cs, t < T → Cg X q m t cs → Cg X q m1 t cs := fun t cs ht h => CgR_cg (T := T) (fun t _ => by
    have := hS.2.2.1
    exact ⟨f _ _ (by omega), f _ _ (by omega), fun i _ => f _ _ (by omega)⟩) _ t cs ht h
  have hq := hS.2.2.1
  have hn := q_n h0
  obtain ⟨k1, k2, k3⟩ := hK
  refine ⟨⟨k1, fun c j hc => ⟨fun hw => ?_, (k2 c j hc).2⟩, fun t cs ht h => cg t cs (by omega) (k3 t cs ht h)⟩, hT, ⟨?_, hE.2⟩, hx, by rw [e1, up_s], BdC_st (Nat.le_refl _) (fun j => f _ _ (by omega)) cg hB⟩
  · rw [f c j (fun z => hw (Or.inr (Or.inr z)))]
    exact (k2 c j hc).1 hw
  · exact CwW_st hs hE.1 (CtT_fr (fun c j z => f _ _ (by omega)) hE.1.2.2.2.1) (Nat.le_refl _) (fun c j z1 z2 => f _ _ (by omega)) (fun j => f _ _ (by omega)) (fun c j z => f _ _ (by omega)) cg
theorem wfx_f {μ : am_Mem} {q : Nat} (hS : ShW s μ q) (hs : s = 22 ∨ s = 42) {c : Nat} {j : Int} (h : (s ≤ c ∧ c ≤ s + 19) ∨ c = 81 ∨ (71 ≤ c ∧ c ≤ 78) ∨ (q ≤ c ∧ c ≤ q + 7) ∨ (c = 84 ∧ j = 9) ∨ (c = 70 ∧ ¬ j = 8)) : ¬ WFx c j := by
  have := hS.2.2.1
  omega
/-- fits leaves the state -/
theorem fx_st {μ : am_Mem} {m m' : PM} {q T : Nat} {S : List Atm} (hs : s = 22 ∨ s = 42) (hS : ShW s μ q) (hE : EvC X W s rs B lev k C0 m q T S) (fr : ∀ c j, ¬ WFx c j → m' c j = m c j) : EvC X W s rs B lev k C0 m' q T S ∧ Kst X (WJn q) T μ q m l μ q m' l := by
  have cg : ∀ t cs, t < T → Cg X q m t cs → Cg X q m' t cs := fun t cs ht h => CgR_cg (T := T) (fun t _ => ⟨fr _ _ (wfx_f hS hs (by omega)), fr _ _ (wfx_f hS hs (by omega)), fun i _ => fr _ _ (wfx_f hS hs (by omega))⟩) _ t cs ht h
  refine ⟨⟨CwW_st hs hE.1 (CtT_fr (fun c j z => fr _ _ (wfx_f hS hs (by omega))) hE.1.2.2.2.1) (Nat.le_refl _) (fun c j z1 z2 => fr _ _ (wfx_f hS hs (by omega))) (fun j => fr _ _ (wfx_f hS hs (by omega))) (fun c j z => fr _ _ (wfx_f hS hs (by omega))) cg, hE.2⟩, Gw_r, fun c j hc => ⟨fun hw => fr c j (fun z => hw ?_), rfl⟩, cg⟩
  omega
theorem mt_iff {β : Nat → List Cd} {a a' : Atm} (h1 : a.1 = a'.1) (hl : a.2.length = a'.2.length) : (∀ j, j < a.2.length → sbC β (a.2.getD j []) = a'.2.getD j []) ↔ sbA β a = a' := by
  constructor
  · intro h
    refine Prod.ext h1 ?_
    show a.2.map (sbC β) = a'.2
    refine List.ext_getElem (by rw [List.length_map]; exact hl) (fun j j1 j2 => ?_)
    rw [List.length_map] at j1
    have z := h j j1
    rw [List.getD_eq_getElem?_getD, List.getElem?_eq_getElem j1, List.getD_eq_getElem?_getD, List.getElem?_eq_getElem j2] at z
    rw [List.getElem_map]
    exact z
  · intro h j hj
    rw [← h]
    show _ = (a.2.map (sbC β)).getD j []
    rw [map_gD hj]
end CJ3
