/-! ===== the class's expand: its joint moves, and all of it ===== -/
/-- the sizes of the states -/
def SzC (m : PM) (sts : List (List (List Cd))) : Prop := ∀ i : Nat, i < sts.length → m 113 (i : Int) = ((sts.getD i []).length : Int)
/-- the terms of the states -/
def TmA (X : Int → List Int → Prop) (q : Nat) (m : PM) (N0 : Nat) (sts : List (List (List Cd))) : Prop := ∀ st, st ∈ sts → ∀ p, p ∈ st → TmC X q m N0 p
/-- what is told of state i -/
def RoX (rs : List Rul) (m : PM) (i : Nat) (st : List (List Cd)) (ns : List Nat) : Prop := m 114 (i : Int) = bP (ovO rs (rlS rs) st) ∧ (m 115 (i : Int) = (ns.length : Int) ∧ ns.length ≤ 40 ∧ ns.length = jmO rs (rlS rs) st) ∧ (∀ j : Nat, j < ns.length → m 116 (40 * (i : Int) + (j : Int)) = (ns.getD j 0 : Int)) ∧ ((rlS rs).length = 2 → (m 117 (i : Int) = (mnX rs (rlS rs) st 0 : Int) ∧ mnX rs (rlS rs) st 0 ≤ 1000) ∧ (m 118 (i : Int) = (mnX rs (rlS rs) st 1 : Int) ∧ mnX rs (rlS rs) st 1 ≤ 1000) ∧ (m 119 (i : Int) = glX rs (rlS rs) st 0 ∧ -2 ≤ glX rs (rlS rs) st 0 ∧ glX rs (rlS rs) st 0 ≤ 100) ∧ m 120 (i : Int) = glX rs (rlS rs) st 1 ∧ -2 ≤ glX rs (rlS rs) st 1 ∧ glX rs (rlS rs) st 1 ≤ 100)
theorem ixS_get {s : List (List Cd)} : ∀ {sts : List (List (List Cd))}, s ∈ sts → sts.getD (ixS s sts) [] = s := by
  intro sts
  induction sts with
  | nil => intro h; exact absurd h List.not_mem_nil
  | cons a t ih =>
    intro h
    unfold ixS
    by_cases y : a = s
    · rw [if_pos y]
      exact y
    · rw [if_neg y]
      rcases List.mem_cons.mp h with e | e
      · exact absurd e.symm y
      · exact ih e
theorem adS_pre {sts : List (List (List Cd))} {s : List (List Cd)} : ∃ L, adS sts s = sts ++ L := by
  unfold adS
  by_cases y : s ∈ sts
  · rw [if_pos y]
    exact ⟨[], (List.append_nil _).symm⟩
  · rw [if_neg y]
    exact ⟨[s], rfl⟩
theorem adS_mem {sts : List (List (List Cd))} {s x : List (List Cd)} (h : x ∈ adS sts s) : x ∈ sts ∨ x = s := by
  unfold adS at h
  by_cases y : s ∈ sts
  · rw [if_pos y] at h
    exact Or.inl h
  · rw [if_neg y] at h
    rcases List.mem_append.mp h with z | z
    · exact Or.inl z
    · exact Or.inr (List.mem_singleton.mp z)
theorem SzC_ad {m m' : PM} {sts : List (List (List Cd))} {s : List (List Cd)} (h : SzC m sts) (e : m' 113 ((ixS s sts : Nat) : Int) = (s.length : Int)) (o : ∀ i, ¬ i = ((ixS s sts : Nat) : Int) → m' 113 i = m 113 i) : SzC m' (adS sts s) := by
  intro i hi
  by_cases y : s ∈ sts
  · unfold adS at hi ⊢
    rw [if_pos y] at hi ⊢
    by_cases z : i = ixS s sts
    · rw [z, e, ixS_get y]
    · rw [o _ (by omega)]
      exact h i hi
  · unfold adS at hi ⊢
    rw [if_neg y] at hi ⊢
    rw [ixS_no y] at e o
    rw [List.length_append, List.length_singleton] at hi
    by_cases z : i = sts.length
    · rw [z, e, gD_snX]
    · rw [o _ (by omega), gD_app (by omega)]
      exact h i (by omega)
theorem glO_R (rs : List Rul) (L st : List (List Cd)) (r : Nat) : -2 ≤ glO rs L st r ∧ glO rs L st r ≤ 100 := GlI_R (Classical.epsilon_spec (p := GlI (fun t => HlO rs (baA 0 st L []) (wdL.getD 8 [], [L.getD r [], t]))) (GlI_ex _))
/-- what of the long values is written -/
abbrev WlX (c : Nat) (j : Int) : Prop := (c = 70 ∧ j = 16) ∨ (c = 16 ∧ j = 18)
theorem wjt_v {q e n N c : Nat} {j : Int} (hq : q = 85 ∨ 185 ≤ q) (he : e = 108 ∨ 185 < e) (hN : 186 ≤ N) (z : (101 ≤ c ∧ c ≤ 104) ∨ c = 111 ∨ c = 115) : c < N ∧ ¬ WJt q e n c j := ⟨by omega, fun y => by rcases y with y | y | y | y <;> omega⟩
theorem wjt_t {q0 e0 q e n N c : Nat} {j : Int} (hq : q = q0 ∨ (q0 = 85 ∧ N ≤ q)) (he : e = e0 ∨ (e0 = 108 ∧ N ≤ e)) (hc : c < N) (z : ¬ WJt q0 e0 n c j) : ¬ WJt q e n c j := fun y => by
  rcases y with y | y | y | y
  · exact z (Or.inl y)
  · exact z (Or.inr (Or.inl (wrn_q hq hc y)))
  · exact z (Or.inr (Or.inr (Or.inl (wen_e0 he hc y))))
  · exact z (Or.inr (Or.inr (Or.inr y)))
section CEU
variable {d : Nat} {Q : Option Value ⊕ Nat → am_Mem → Prop} {X : Int → List Int → Prop} {W : Int → Nat} {s q0 e0 N0 M n : Nat} {rs : List Rul} {lev : List Int → Nat} {F G Tf : Nat} {S0 : List Atm} {μ0 : am_Mem} {m0 l0 : PM} {st A : List (List Cd)} {sts0 : List (List (List Cd))} {res : Option (List (List (List Cd)) × Nat × List Nat)}
theorem TmA_ad {q q' : Nat} {m m' : PM} {sts : List (List (List Cd))} {s : List (List Cd)} (cg : ∀ t cs, t < N0 → Cg X q m t cs → Cg X q' m' t cs) (h : TmA X q m N0 sts) (hs : ∀ p, p ∈ s → TmC X q' m' N0 p) : TmA X q' m' N0 (adS sts s) := fun x hx p hp => by
  rcases adS_mem hx with y | y
  · exact TmC_st cg (h x y p hp)
  · rw [y] at hp
    exact hs p hp
theorem kl_loop (hS0 : ShX s μ0 q0 e0) (hs : s = 22 ∨ s = 42) (hgo : GoS rs) (hNf : N0 ≤ Tf) (hTf : Tf ≤ M) (hMb : M ≤ Tf + 12140 + 11 * A.length) (hA60 : A.length ≤ 60) (hnd : A.Nodup) (hmem : ∀ t, t ∈ A ↔ t ∈ st) (hn : n < 300) (h40 : jmO rs (rlS rs) st ≤ 40)
    (hok : ∀ (μ' : am_Mem) (m' l' : PM) (q' e' : Nat) (As' sts' : List (List (List Cd))) (tot' : Nat) (ns : List Nat) (Fn' : Nat), res = some (sts', tot', ns) → Gx μ0 q0 e0 μ' q' e' → ShX s μ' q' e' → ClB X W s rs q' m' M N0 → FxC X W s rs lev F G N0 m' q' M Fn' S0 Tf → StI X m' e' As' → CoA X As' sts' → m' 106 1 = (As'.length : Int) → SzC m' sts' → TmA X q' m' N0 sts' → ns.length = jmO rs (rlS rs) st → (∀ y, y ∈ ns → y < sts'.length) → (∀ i : Nat, i < ns.length → m' 116 (40 * (n : Int) + (i : Int)) = (ns.getD i 0 : Int)) → (∃ L, sts' = sts0 ++ L) → l' 16 18 = (tot' : Int) → tot' ≤ 30000000 → (∀ t cs, t < M → Cg X q0 m0 t cs → Cg X q' m' t cs) → (∀ c i, c < am_n μ0 → ¬ WJt q0 e0 n c i → m' c i = m0 c i) → (∀ c i, c < am_n μ0 → ¬ WlX c i → l' c i = l0 c i) → Q (.inl none) (sA μ' m' l'))
    (hthr : ∀ (μ' : am_Mem) (m' l' : PM) (q' e' T' Fn' : Nat), res = none → Gx μ0 q0 e0 μ' q' e' → ShX s μ' q' e' → ClB X W s rs q' m' T' N0 → FxC X W s rs lev F G N0 m' q' T' Fn' S0 Tf → M ≤ T' → m' 109 0 = 0 → (∀ i, 0 ≤ m' e' i ∧ m' e' i ≤ 32767) → (∀ t cs, t < M → Cg X q0 m0 t cs → Cg X q' m' t cs) → (∀ c i, c < am_n μ0 → ¬ WJt q0 e0 n c i → m' c i = m0 c i) → (∀ c i, c < am_n μ0 → ¬ WlX c i → l' c i = l0 c i) → Q (.inr 3) (sA (am_nX μ') m' l')) :
    ∀ (k j : Nat) (μ : am_Mem) (m l : PM) (q e : Nat) (As sts : List (List (List Cd))) (tot : Nat) (ns : List Nat) (Fn : Nat), j + k = jmO rs (rlS rs) st → ns.length = j → Gx μ0 q0 e0 μ q e → ShX s μ q e → ClB X W s rs q m M N0 → FxC X W s rs lev F G N0 m q M Fn S0 Tf → (¬ jmO rs (rlS rs) st = 0 → SnI X rs q m 101 N0 M st) → RwC X q m M 111 0 A.reverse → (∀ p, p ∈ A → TmC X q m N0 p) → StI X m e As → CoA X As sts → m 106 1 = (As.length : Int) → SzC m sts → TmA X q m N0 sts → l 16 18 = (tot : Int) → tot ≤ 30000000 → m 115 (n : Int) = (jmO rs (rlS rs) st : Int) → (∀ i : Nat, i < j → m 116 (40 * (n : Int) + (i : Int)) = (ns.getD i 0 : Int)) → (∀ y, y ∈ ns → y < sts.length) → (∃ L, sts = sts0 ++ L) → xJ rs (rlS rs) st k j sts tot ns = res → (∀ t cs, t < M → Cg X q0 m0 t cs → Cg X q m t cs) → (∀ c i, c < am_n μ0 → ¬ WJt q0 e0 n c i → m c i = m0 c i) → (∀ c i, c < am_n μ0 → ¬ WlX c i → l c i = l0 c i) →
      Wp (d + 16) 138 (140, [some (.ref 16), some (.int (zI (n : Int))), some (.ref 84), some (.ref 111), some (.int (zI (A.length : Int))), some (.int (zI (M : Int))), some (.int (zI (j : Int)))], [], sA μ m l) Q := by
  have hN : N0 ≤ M := Nat.le_trans hNf hTf
  intro k
  induction k with
  | zero =>
    intro j μ m l q e As sts tot ns Fn hj hl hG hS hB hx hsn hrow htm hSt hCo e106 hsz hTm e1 ht e115 h116 hb hpre hres cg fr frl
    obtain ⟨⟨s1, s2, s3, s4, s5, s6⟩, ⟨x1, x2⟩, ⟨x3, x4, x5⟩, _, x7⟩ := id hS
    refine K138_140 s1 s2 (TQ_q s3) hs s5 x1 x2 (hE_of hS) ⟨⟨by omega, by omega⟩, ⟨by omega, by omega⟩, by rw [e115]; exact ⟨by omega, by omega⟩, fun _ => ?_, fun z => absurd (by rw [e115]; omega) z⟩
    exact hok μ m l q e As sts tot ns Fn hres.symm hG hS hB hx hSt hCo e106 hsz hTm (by omega) hb (fun i hi => h116 i (by omega)) hpre e1 ht cg fr frl
  | succ k ih =>
    intro j μ m l q e As sts tot ns Fn hj hl hG hS hB hx hsn hrow htm hSt hCo e106 hsz hTm e1 ht e115 h116 hb hpre hres cg fr frl
    have s3 := hS.1.2.2.1
    have x3 := hS.2.2.1.1
    have x7 := hS.2.2.2.2
    have hq0 := hG.2.2.2.1
    have he0 := hG.2.2.2.2.1
    refine kl_turn (d := d) (j := j) (tot := tot) hS hs hgo hB hNf hTf hMb hx (hsn (by omega)) hrow htm hA60 hnd hmem hSt hCo e1 ht hn (by omega) h40 e115 (fun μ' m' l' q' e' As' Fn' hJ G' S' hB' hx' t' co' e106' e113' o113' e116' o116' tm' el' cg' f' fl' => ?_) (fun μ' m' l' q' e' T' Fn' hJ G' S' hB' hx' hT' z' rg' cg' f' fl' => ?_)
    · have e : xJ rs (rlS rs) st (k + 1) j sts tot ns = xJ rs (rlS rs) st k (j + 1) (adS sts (nsO rs (rlS rs) st (chO rs (rlS rs) st j))) (tot + wkO rs (baA 1 st (rlS rs) (chO rs (rlS rs) st j))) (ns ++ [ixS (nsO rs (rlS rs) st (chO rs (rlS rs) st j)) sts]) := if_pos hJ
      have go := ih (j + 1) μ' m' l' q' e' As' (adS sts (nsO rs (rlS rs) st (chO rs (rlS rs) st j))) (tot + wkO rs (baA 1 st (rlS rs) (chO rs (rlS rs) st j))) (ns ++ [ixS (nsO rs (rlS rs) st (chO rs (rlS rs) st j)) sts]) Fn' (by omega) (by rw [List.length_append, hl]; rfl) (Gx_t hS0 hG G') S' hB' hx' (fun z => SnI_st hN (fun c i hc => f' c i (wjt_v (n := n) (j := i) s3 x3 x7 (by omega)).1 (wjt_v s3 x3 x7 (by omega)).2) cg' (hsn z)) (RwC_st (Nat.le_refl _) (fun i _ _ => f' 111 _ (wjt_v (n := n) (j := 0) s3 x3 x7 (by omega)).1 (wjt_v s3 x3 x7 (by omega)).2) cg' hrow) (fun p hp => TmC_st (fun t cs ht h => cg' t cs (Nat.lt_of_lt_of_le ht hN) h) (htm p hp)) t' co' e106' (SzC_ad hsz e113' o113') (TmA_ad (fun t cs ht h => cg' t cs (Nat.lt_of_lt_of_le ht hN) h) hTm tm') el' hJ.2.1 ((f' 115 _ (wjt_v (n := n) (j := 0) s3 x3 x7 (by omega)).1 (wjt_v s3 x3 x7 (by omega)).2).trans e115) (fun i hi => ?_) (fun y hy => ?_) ?_ (e.symm.trans hres) (fun t cs ht h => cg' t cs ht (cg t cs ht h)) (fun c i hc z => (f' c i (Nat.lt_of_lt_of_le hc hG.1) (wjt_t hq0 he0 hc z)).trans (fr c i hc z)) (fun c i hc z => (fl' c i (Nat.lt_of_lt_of_le hc hG.1) z).trans (frl c i hc z))
      · rw [show ((j + 1 : Nat) : Int) = (j : Int) + 1 by omega] at go
        exact go
      · by_cases y : i = j
        · rw [y, e116', ← hl, gD_snX]
        · rw [o116' _ (by omega), gD_app (by omega)]
          exact h116 i (by omega)
      · have hal := adS_len (sts := sts) (s := (nsO rs (rlS rs) st (chO rs (rlS rs) st j)))
        rcases List.mem_append.mp hy with z | z
        · have := hb y z
          omega
        · rw [List.mem_singleton.mp z]
          exact hal.2
      · obtain ⟨L, hL⟩ := hpre
        obtain ⟨L', hL'⟩ := adS_pre (sts := sts) (s := (nsO rs (rlS rs) st (chO rs (rlS rs) st j)))
        exact ⟨L ++ L', by rw [hL', hL, List.append_assoc]⟩
    · have e : xJ rs (rlS rs) st (k + 1) j sts tot ns = none := if_neg hJ
      exact hthr μ' m' l' q' e' T' Fn' (hres.symm.trans e) (Gx_t hS0 hG G') S' hB' hx' hT' z' rg' (fun t cs ht h => cg' t cs ht (cg t cs ht h)) (fun c i hc z => (f' c i (Nat.lt_of_lt_of_le hc hG.1) (wjt_t hq0 he0 hc z)).trans (fr c i hc z)) (fun c i hc z => (fl' c i (Nat.lt_of_lt_of_le hc hG.1) z).trans (frl c i hc z))
end CEU
