/-! ===== the class at work: join, its state; one atom is as good as all ===== -/
section CJ2
variable {X : Int → List Int → Prop} {W : Int → Nat} {s k C0 r lv : Nat} {rs : List Rul} {B : List Atm → Prop} {S0 : List Atm} {lev : List Int → Nat} {gv nw : Int}
/-- where join stands -/
def JnS (X : Int → List Int → Prop) (W : Int → Nat) (s : Nat) (rs : List Rul) (B : List Atm → Prop) (lev : List Int → Nat) (k C0 r : Nat) (gv nw : Int) (S0 : List Atm) (lv : Nat) (μ : am_Mem) (m : PM) (q T : Nat) (S : List Atm) (b : Nat → Option (List Cd)) : Prop := ShW s μ q ∧ EvC X W s rs B lev k C0 m q T S ∧ (m 70 9 = (r : Int) ∧ m 70 10 = gv ∧ m 70 11 = nw) ∧ ExS lev k S0 S ∧ BdC X q m T b ∧ BtB m b ∧ BLg (posR (rs.getD r ruD)) b gv lv S ∧ LT s rs m r 0
/-- how join goes on, without the way to it -/
def JnG (X : Int → List Int → Prop) (W : Int → Nat) (s : Nat) (rs : List Rul) (B : List Atm → Prop) (lev : List Int → Nat) (k C0 : Nat) (μ : am_Mem) (m l : PM) (q T : Nat) (S : List Atm) (b : Nat → Option (List Cd)) (μ' : am_Mem) (m' l' : PM) (q' T' : Nat) (S' : List Atm) : Prop := Kst X (WJn q) T μ q m l μ' q' m' l' ∧ T ≤ T' ∧ EvC X W s rs B lev k C0 m' q' T' S' ∧ ExS lev k S S' ∧ m' 70 8 = m 70 8 ∧ BdC X q' m' T' b
/-- how join ends by a throw -/
def JnT (X : Int → List Int → Prop) (W : Int → Nat) (s : Nat) (rs : List Rul) (B : List Atm → Prop) (lev : List Int → Nat) (k C0 : Nat) (μ : am_Mem) (m l : PM) (q T : Nat) (S : List Atm) (μ' : am_Mem) (m' l' : PM) (q' T' : Nat) (S' : List Atm) : Prop := (∀ B', B B' → ¬ ∃ S', EvG rs B' S') ∧ Kst X (WJn q) T μ q m l μ' q' m' l' ∧ T ≤ T' ∧ T' ≤ C0 + 45000 ∧ ExS lev k S S' ∧ CwW X W s rs m' q' T' S'
/-- all is concluded from a condition on -/
abbrev DnJ (rs : List Rul) (r : Nat) (gv nw : Int) (S0 : List Atm) (lv : Nat) (b : Nat → Option (List Cd)) (S' : List Atm) : Prop := ∀ β, Gb β → Ext b β → Cmj (posR (rs.getD r ruD)) S0 gv nw lv β → Dn (rs.getD r ruD) S0 S' β
/-- join does what it must, at a depth and a condition -/
def JnP (X : Int → List Int → Prop) (W : Int → Nat) (s : Nat) (rs : List Rul) (B : List Atm → Prop) (lev : List Int → Nat) (k C0 r : Nat) (gv nw : Int) (S0 : List Atm) (D lv : Nat) : Prop := ∀ (Q : Option Value ⊕ Nat → am_Mem → Prop) (μ : am_Mem) (m l : PM) (q T : Nat) (S : List Atm) (b : Nat → Option (List Cd)), JnS X W s rs B lev k C0 r gv nw S0 lv μ m q T S b → (∀ (μ' : am_Mem) (m' l' : PM) (q' T' : Nat) (S' : List Atm), JnG X W s rs B lev k C0 μ m l q T S b μ' m' l' q' T' S' → DnJ rs r gv nw S0 lv b S' → Q (.inl none) (sA μ' m' l')) → (∀ (μ' : am_Mem) (m' l' : PM) (q' T' : Nat) (S' : List Atm), JnT X W s rs B lev k C0 μ m l q T S μ' m' l' q' T' S' → Q (.inr 3) (sA (am_nX μ') m' l')) → Wp D 39 (0, [some (.ref 70), some (.int (zI (lv : Int))), none, none, none, none, none, none, none, none, none], [], sA μ m l) Q
theorem jn_o {q : Nat} {μ : am_Mem} (hS : ShW s μ q) (hs : s = 22 ∨ s = 42) {c : Nat} {j : Int} (h : (c = 70 ∧ ¬ j = 8) ∨ (s ≤ c ∧ c ≤ s + 19) ∨ c = 80 ∨ c = 81) : ¬ WJn q c j ∧ c < am_n μ := by
  have := q_n hS
  omega
theorem jn_i {q q1 : Nat} {μ μ1 : am_Mem} (hS : ShW s μ q) (h : Gw μ q μ1 q1) : ∀ c j, c < am_n μ → WJn q1 c j → WJn q c j := by
  intro c j hc z
  have := Gw_q hS h
  omega
theorem wc_j {q c : Nat} {j : Int} (h : WCo q c j) : WJn q c j := Or.inl h
theorem wl_j {q c : Nat} {j : Int} (h : WLu q c j) : WJn q c j := Or.inl (Or.inl h)
theorem LT_cg {m m' : PM} (e : ∀ j, m' (s + 14) j = m (s + 14) j) (h : LT s rs m r 0) : LT s rs m' r 0 := fun j j0 j1 => by
  obtain ⟨u, a1, a2⟩ := h j j0 j1
  exact ⟨u, by rw [e]; exact a1, a2⟩
theorem BtB_cg {m m' : PM} {b : Nat → Option (List Cd)} (e : m' 70 8 = m 70 8) (h : BtB m b) : BtB m' b := by
  obtain ⟨u, a1, a2, a3⟩ := h
  exact ⟨u, a1, by rw [e]; exact a2, a3⟩
/-- the state behind a step -/
theorem JnS_st {μ μ' : am_Mem} {m l m' l' : PM} {q q' T T' : Nat} {S S' : List Atm} {b : Nat → Option (List Cd)} (hs : s = 22 ∨ s = 42) (h : JnS X W s rs B lev k C0 r gv nw S0 lv μ m q T S b) (hG : JnG X W s rs B lev k C0 μ m l q T S b μ' m' l' q' T' S') : JnS X W s rs B lev k C0 r gv nw S0 lv μ' m' q' T' S' b := by
  obtain ⟨h1, h2, ⟨h3, h4, h5⟩, h6, h7, h8, h9, h10⟩ := h
  obtain ⟨⟨g1, g2, g3⟩, g4, g5, g6, g7, g8⟩ := hG
  have f : ∀ c j, (c = 70 ∧ ¬ j = 8) ∨ (s ≤ c ∧ c ≤ s + 19) ∨ c = 80 ∨ c = 81 → m' c j = m c j := fun c j z => (g2 c j (jn_o h1 hs z).2).1 (jn_o h1 hs z).1
  exact ⟨Gw_S h1 g1, g5, ⟨by rw [f _ _ (Or.inl ⟨rfl, by decide⟩)]; exact h3, by rw [f _ _ (Or.inl ⟨rfl, by decide⟩)]; exact h4, by rw [f _ _ (Or.inl ⟨rfl, by decide⟩)]; exact h5⟩, ExS_t h6 g6, g8, BtB_cg g7 h8, BLg_x (fun a ha => ExS_m g6 ha) h9, LT_cg (fun j => f _ j (Or.inr (Or.inl ⟨by omega, by omega⟩))) h10⟩
theorem JnG_r {μ : am_Mem} {m l : PM} {q T : Nat} {S : List Atm} {b : Nat → Option (List Cd)} (h : JnS X W s rs B lev k C0 r gv nw S0 lv μ m q T S b) : JnG X W s rs B lev k C0 μ m l q T S b μ m l q T S := ⟨Kst_r, Nat.le_refl _, h.2.1, ExS_r, rfl, h.2.2.2.2.1⟩
theorem JnG_t {μ μ1 μ2 : am_Mem} {m l m1 l1 m2 l2 : PM} {q q1 q2 T T1 T2 : Nat} {S S1 S2 : List Atm} {b b' : Nat → Option (List Cd)} (h : ShW s μ q) (g : JnG X W s rs B lev k C0 μ m l q T S b μ1 m1 l1 q1 T1 S1) (g' : JnG X W s rs B lev k C0 μ1 m1 l1 q1 T1 S1 b' μ2 m2 l2 q2 T2 S2) (hb : BdC X q2 m2 T2 b) : JnG X W s rs B lev k C0 μ m l q T S b μ2 m2 l2 q2 T2 S2 := by
  obtain ⟨a1, a2, a3, a4, a5, a6⟩ := g
  obtain ⟨b1, b2, b3, b4, b5, b6⟩ := g'
  exact ⟨Kst_t h a2 (fun _ _ _ z => z) (jn_i h a1.1) a1 b1, by omega, b3, ExS_t a4 b4, b5.trans a5, hb⟩
theorem JnT_t {μ μ1 μ2 : am_Mem} {m l m1 l1 m2 l2 : PM} {q q1 q2 T T1 T2 : Nat} {S S1 S2 : List Atm} {b : Nat → Option (List Cd)} (h : ShW s μ q) (g : JnG X W s rs B lev k C0 μ m l q T S b μ1 m1 l1 q1 T1 S1) (g' : JnT X W s rs B lev k C0 μ1 m1 l1 q1 T1 S1 μ2 m2 l2 q2 T2 S2) : JnT X W s rs B lev k C0 μ m l q T S μ2 m2 l2 q2 T2 S2 := by
  obtain ⟨a1, a2, a3, a4, a5, a6⟩ := g
  obtain ⟨b1, b2, b3, b4, b5, b6⟩ := g'
  exact ⟨b1, Kst_t h a2 (fun _ _ _ z => z) (jn_i h a1.1) a1 b2, by omega, b4, ExS_t a4 b5, b6⟩
/-- what is bound stays bound -/
theorem bd_ext {b b' : Nat → Option (List Cd)} {g : Nat} {M : (Nat → List Cd) → Prop} (hg : ∀ v q, b' v = some q → wfS g q ∧ gnd q) (hE : ∀ β, Gb β → (Ext b' β ↔ (Ext b β ∧ M β))) (hd : ∀ v, ¬ b v = none → ¬ b' v = none) {v : Nat} {cs : List Cd} (h : b v = some cs) : b' v = some cs := by
  have hβ : Gb (fulB b') := fulB_g hg
  have e := ((hE _ hβ).mp (fulB_e b')).1 v cs h
  have hn := hd v (by rw [h]; exact fun z => nomatch z)
  cases z : b' v with
  | none => exact absurd z hn
  | some p => rw [← e, fulB_e b' v p z]
/-- if what a condition binds doesn't matter later, one atom is as good as all -/
theorem once_dn {b b' : Nat → Option (List Cd)} {g : Nat} {M : (Nat → List Cd) → Prop} {S' : List Atm} (hr : r < rs.length) (h2 : ∀ c, c ∈ (rs.getD r ruD).2 → c.1 = 3 → c.2.2.length = 2) (hg : ∀ v q, b' v = some q → wfS g q ∧ gnd q) (hE : ∀ β, Gb β → (Ext b' β ↔ (Ext b β ∧ M β))) (hd : ∀ v, ¬ b' v = none → (¬ b v = none ∨ atW ((posR (rs.getD r ruD)).getD lv ([], [])) v)) (hfree : ∀ v, atW ((posR (rs.getD r ruD)).getD lv ([], [])) v → b v = none → ¬ MtJ rs r (lv + 1) v) (hdn : DnJ rs r gv nw S0 (lv + 1) b' S') : DnJ rs r gv nw S0 lv b S' := by
  intro β hβ he hc
  obtain ⟨⟨f1, hf1⟩, hgn⟩ := id hβ
  let β' : Nat → List Cd := fun v => (b' v).getD (β v)
  have vS : ∀ v q, b' v = some q → β' v = q := fun v q e => by
    show (b' v).getD (β v) = q
    rw [e]
    rfl
  have vN : ∀ v, b' v = none → β' v = β v := fun v e => by
    show (b' v).getD (β v) = β v
    rw [e]
    rfl
  have hβ' : Gb β' := by
    refine ⟨⟨f1 + g, fun v => ?_⟩, fun v => ?_⟩
    · cases e : b' v with
      | none => rw [vN v e]; exact wfS_mono _ _ _ (by omega) (hf1 v)
      | some q => rw [vS v q e]; exact wfS_mono _ _ _ (by omega) (hg v q e).1
    · cases e : b' v with
      | none => rw [vN v e]; exact hgn v
      | some q => rw [vS v q e]; exact (hg v q e).2
  have he' : Ext b' β' := vS
  have heb : Ext b β' := ((hE β' hβ').mp he').1
  have ag : ∀ v, MtJ rs r (lv + 1) v → β' v = β v := fun v hm => by
    cases e : b' v with
    | none => exact vN v e
    | some q =>
      rcases Classical.em (b v = none) with z | z
      · rcases hd v (by rw [e]; exact fun z => nomatch z) with y | y
        · exact absurd z y
        · exact absurd hm (hfree v y z)
      · cases e0 : b v with
        | none => exact absurd e0 z
        | some q0 => rw [heb v q0 e0, he v q0 e0]
  have agA : ∀ a : Atm, (∀ v, atW a v → MtJ rs r (lv + 1) v) → sbA β' a = sbA β a := fun a h => sbA_agree (fun p hp c hc h5 => ag _ (h _ ⟨p, hp, c, hc, by omega⟩))
  have hD := hdn β' hβ' he' (fun i i0 i1 i2 => by
    obtain ⟨a, a1, a2, a3⟩ := hc i (by omega) i1 i2
    have i1' : i < (psC (rs.getD r ruD).2).length := by rw [← posR_l]; exact i1
    refine ⟨a, a1, ?_, a3⟩
    rw [a2]
    refine (agA _ (fun v hv => Or.inr ⟨i, i0, i1', ?_⟩)).symm
    rw [posR_g i1'] at hv
    exact hv)
  intro ho
  have hh := hD (fun c hc' => by
    refine (Oth_ag (h2 c hc') (fun e p hp x hx h5 => ?_)).mpr (ho c hc')
    have hm : c ∈ otC (rs.getD r ruD).2 := otC_mem.mpr ⟨hc', e⟩
    obtain ⟨j, hj, ej⟩ := (mem_gD _ cnD _).mp hm
    exact ag _ (Or.inl (Or.inr ⟨j, hj, by rw [ej]; exact ⟨p, hp, x, hx, by omega⟩⟩)))
  rw [agA _ (fun v hv => Or.inl (Or.inl hv))] at hh
  exact hh
end CJ2
