/-! ===== the class's expand: the work added, the view gathered, the state looked at ===== -/
theorem smR_b {S : List Atm} : ∀ (rs : List Rul), (∀ ru, ru ∈ rs → rmA S ru ≤ 300000) → smR S rs ≤ 300000 * rs.length := by
  intro rs
  induction rs with
  | nil => intro _; exact Nat.le_refl _
  | cons ru rs ih =>
    intro h
    have a := h ru List.mem_cons_self
    have b := ih (fun r hr => h r (List.mem_cons_of_mem _ hr))
    unfold smR at *
    rw [List.map_cons, List.sum_cons, List.length_cons]
    omega
section CEY
variable {d : Nat} {Q : Option Value ⊕ Nat → am_Mem → Prop} {X : Int → List Int → Prop} {W : Int → Nat} {s q e T N0 : Nat} {rs : List Rul} {S : List Atm} {μ : am_Mem} {m l : PM} {st : List (List Cd)}
theorem kl_exp68 {n w : Nat} {x4 x5 : Int} (hS : ShX s μ q e) (hs : s = 22 ∨ s = 42) (hgo : GoS rs) (hB : ClB X W s rs q m T N0) (hNT : N0 ≤ T) (hW : CwW X W s rs m q T S) (hE : EvG rs (baA 0 st (rlS rs) []) S) (hne : ∀ a, a ∈ S → ∀ p, p ∈ a.2 → tlC p ≤ 48 ∧ NeC p) (htm : ∀ a, a ∈ S → ∀ p, p ∈ a.2 → TmC X q m N0 p) (e1 : l 16 18 = (w : Int)) (hw : w ≤ 30000000) (el : l 70 16 = (smR S rs : Int)) (hn : n < 300) (ek : m 106 0 = ((rlS rs).length : Int))
    (hok : ∀ m' : PM, w + smR S rs ≤ 30000000 → (¬ ovO rs (rlS rs) st → jmN (rlS rs).length (mvO rs (rlS rs) st) ≤ 40) → SnI X rs q m' 101 N0 T st → LkC m' (rlS rs).length n (ovO rs (rlS rs) st) (mvO rs (rlS rs) st) (glO rs (rlS rs) st) → (∀ c j, ¬ (WGt 101 c j ∨ WLok n c j) → m' c j = m c j) → Wp (d + 16) 138 (95, [some (.ref 16), some (.int (zI (n : Int))), some (.ref 84), some (.ref 111), some (.int (zI x4)), some (.int (zI x5)), none], [], sA μ m' (up l 16 18 ((w + smR S rs : Nat) : Int))) Q)
    (hx : ∀ m' : PM, (¬ w + smR S rs ≤ 30000000 ∨ (¬ ovO rs (rlS rs) st ∧ 40 < jmN (rlS rs).length (mvO rs (rlS rs) st))) → m' 103 0 = 0 → (∀ c j, ¬ (WGt 101 c j ∨ WLok n c j) → m' c j = m c j) → Q (.inr 3) (sA (am_nX μ) m' (up l 16 18 ((w + smR S rs : Nat) : Int)))) :
    Wp (d + 16) 138 (68, [some (.ref 16), some (.int (zI (n : Int))), some (.ref 84), some (.ref 111), some (.int (zI x4)), some (.int (zI x5)), none], [], sA μ m l) Q := by
  obtain ⟨⟨s1, s2, s3, s4, s5, s6⟩, ⟨x1, x2⟩, _, h6', x7⟩ := id hS
  obtain ⟨⟨b1, b2, b3, b4⟩, b5, b6, b7, ⟨b8, b9⟩, b10, b11, b12⟩ := id hB
  have hn4 := (rlS_ok rs).2
  have h60 := (KV_n b1).2.1
  have hsm := smR_b rs hE.2.2.2.2.2.2
  refine K138_68 s1 s2 (TQ_q s3) hs s5 x1 x2 (hE_of hS) ⟨fun μ' => Wp (d + 16) 138 (72, [some (.ref 16), some (.int (zI (n : Int))), some (.ref 84), some (.ref 111), some (.int (zI x4)), some (.int (zI x5)), none], [], μ') Q, fun x μ' => Q (.inr x) μ', ?_, fun _ h => h, fun _ _ h => h⟩
  refine k_addWork s1 e1 el hw (by omega) (fun hle => ?_) (fun hgt => hx m (Or.inl hgt) b12 (fun _ _ _ => rfl))
  show Wp (d + 16) 138 (72, [some (.ref 16), some (.int (zI (n : Int))), some (.ref 84), some (.ref 111), some (.int (zI x4)), some (.int (zI x5)), none], [], sA μ m (up l 16 18 ((w + smR S rs : Nat) : Int))) Q
  refine K138_72 s1 s2 (TQ_q s3) hs s5 x1 x2 (hE_of hS) ⟨fun μ' => Wp (d + 16) 138 (83, [some (.ref 16), some (.int (zI (n : Int))), some (.ref 84), some (.ref 111), some (.int (zI x4)), some (.int (zI x5)), none], [], μ') Q, noX, ?_, fun _ h => h, fun _ _ z => z.elim⟩
  refine k_gather (d := d + 10) (Q := pV _ noX) (X := X) (L := rlS rs) (v := 101) hS.1 hs (Or.inr rfl) hgo b4 hW hE.2.2.2.1 b5 b8 (rlS_ok rs).1 (RwC_st hNT (fun _ _ _ => rfl) (fun _ _ _ h => h) b9) hn4 hne b12 (fun m4 e44 e43 vw4 pr4 f4 => ?_)
  show Wp (d + 16) 138 (83, [some (.ref 16), some (.int (zI (n : Int))), some (.ref 84), some (.ref 111), some (.int (zI x4)), some (.int (zI x5)), none], [], sA μ m4 (up l 16 18 ((w + smR S rs : Nat) : Int))) Q
  have cg4 : ∀ t cs, Cg X q m t cs → Cg X q m4 t cs := fun t cs h => Cg_q (fun c j hc => f4 c j (by omega)) h
  have tmv : ∀ r, r < (rlS rs).length → ∀ p, p ∈ mvO rs (rlS rs) st r → TmC X q m4 N0 p := fun r hr p hp => by
    rw [← mv_O hgo hE] at hp
    exact TmC_st (fun t cs _ h => cg4 t cs h) (htm _ (((pr4 r hr).2.1 p).mp hp) p (List.mem_cons_of_mem _ (List.mem_singleton.mpr rfl)))
  rw [mv_O hgo hE, gl_O hgo hE] at vw4
  have e43' : m4 101 3 = bP (ovO rs (rlS rs) st) := by
    rw [e43, wd_term]
    refine bP_cg ?_
    rw [← Ev_cn hgo hE]
  refine K138_83 s1 s2 (TQ_q s3) hs s5 x1 x2 (hE_of hS) ⟨fun μ' => Wp (d + 16) 138 (95, [some (.ref 16), some (.int (zI (n : Int))), some (.ref 84), some (.ref 111), some (.int (zI x4)), some (.int (zI x5)), none], [], μ') Q, fun x μ' => Q (.inr x) μ', ?_, fun _ h => h, fun _ _ h => h⟩
  refine k_look (d := d + 13) (Q := pV _ _) (X := X) (T := T) (q := q) (v := 101) (i := n) s1 (Or.inr rfl) h6' hn e44 hn4 vw4 e43' ((f4 106 0 (by decide)).trans ek) (fun m5 lk f5 => ?_) (fun m5 nov hgt f5 => ?_)
  · show Wp (d + 16) 138 (95, [some (.ref 16), some (.int (zI (n : Int))), some (.ref 84), some (.ref 111), some (.int (zI x4)), some (.int (zI x5)), none], [], sA μ m5 (up l 16 18 ((w + smR S rs : Nat) : Int))) Q
    have k5 : ∀ c j, c < 114 → m5 c j = m4 c j := fun c j hc => f5 c j (fun y => by
      unfold WLok at y
      omega)
    have cg5 : ∀ t cs, Cg X q m4 t cs → Cg X q m5 t cs := fun t cs h => Cg_q (fun c j hc => f5 c j (fun y => by
      unfold WLok at y
      omega)) h
    refine hok m5 hle (fun y => (lk.2.2.1 y).2) ⟨⟨S, hE⟩, (k5 _ _ (by decide)).trans e44, (k5 _ _ (by decide)).trans e43', VwI_st (Nat.le_refl _) (fun c j c1 c2 => k5 c j (by omega)) (fun t cs _ h => cg5 t cs h) vw4, fun r hr p hp => TmC_st (fun t cs _ h => cg5 t cs h) (tmv r hr p hp)⟩ lk (fun c j z => (f5 c j (fun y => z (Or.inr y))).trans (f4 c j (fun y => z (Or.inl y))))
  · show Q (.inr 3) (sA (am_nX μ) m5 _)
    exact hx m5 (Or.inr ⟨nov, hgt⟩) ((f5 103 0 (fun y => by
      unfold WLok at y
      omega)).trans (show m4 103 0 = 0 from vw4.1 0 (Nat.zero_le _))) (fun c j z => (f5 c j (fun y => z (Or.inr y))).trans (f4 c j (fun y => z (Or.inl y))))
end CEY
