/-! ===== the class's store: isLatest, intern ===== -/
section CSI
variable {d : Nat} {Q : Option Value ⊕ Nat → am_Mem → Prop} {X : Int → List Int → Prop} {μ : am_Mem} {m l : PM} {s q e T r1 L1 n : Nat} {As : List (List (List Cd))} {A : List (List Cd)}
theorem k_isLatest {i : Nat} (hS : ShX s μ q e) (hX : XP X) (e3 : m 107 3 = (n : Int)) (hn : n ≤ 300) (hi : i < n) (hSi : St1 X m e i (As.getD i [])) (hgi : GdL (As.getD i [])) (hSn : St1 X m e n A) (hA : GdL A) (hsh : ∀ j, 0 ≤ m e j ∧ m e j ≤ 32767)
    (hy : As.getD i [] = A → Q (.inl (some (.int (zI 1)))) (sA μ m l)) (hno : ¬ As.getD i [] = A → Q (.inl (some (.int (zI 0)))) (sA μ m l)) : Wp d 86 (0, [some (.ref 107), some (.int (zI (i : Int))), none, none], [], sA μ m l) Q := by
  obtain ⟨⟨s1, s2, s3, s4, s5, s6⟩, ⟨x1', x2'⟩, ⟨x3, x4, x5⟩, x6, x7⟩ := id hS
  have hq := TQ_q s3
  have hE := hE_of hS
  have hcN : cN e ≤ 343140 := by omega
  obtain ⟨f, f1, f2, f3, f4, f5, f6⟩ := hSi
  obtain ⟨g, g1, g2, g3, g4, g5, g6⟩ := hSn
  have hl1 := GdL_f hgi
  have hl2 := GdL_f hA
  refine K86_0 s1 s2 hq x1' x2' hE ?_
  rw [e3, f1, f2, g1, g2]
  refine ⟨⟨by omega, by omega⟩, ⟨by omega, by omega⟩, ⟨by omega, by omega⟩, ⟨by omega, by omega⟩, ⟨by omega, by omega⟩, ⟨by omega, by omega⟩, fun z v1 ev1 => ?_, fun z v2 ev2 => hno (fun y => z (by rw [y]; omega))⟩
  have hl : (As.getD i []).flatten.length = A.flatten.length := by omega
  have uni := CdR_uni hX (fun p hp => (hgi.2 p hp).1) (fun p hp => (hA.2 p hp).1) hl f5 g5
  have loop : ∀ (h k : Nat), k + h = A.flatten.length → (∀ j : Nat, j < k → m e ((f : Int) + (j : Int)) = m e ((g : Int) + (j : Int))) → Wp d 86 (45, [some (.ref 107), some (.int (zI (i : Int))), some (.int (zI (A.flatten.length : Int))), some (.int (zI (k : Int)))], [], sA μ m l) Q := by
    intro h
    induction h with
    | zero =>
      intro k hk he
      exact K86_45 s1 s2 hq x1' x2' hE ⟨⟨by omega, by omega⟩, ⟨by omega, by omega⟩, fun _ => hy (uni.mp (fun j hj => he j (by omega))), fun z => absurd (by omega) z⟩
    | succ h ih =>
      intro k hk he
      have r1 := hsh ((f : Int) + (k : Int))
      have r2 := hsh ((g : Int) + (k : Int))
      refine K86_45 s1 s2 hq x1' x2' hE ?_
      rw [e3, f1, g1]
      refine ⟨⟨by omega, by omega⟩, ⟨by omega, by omega⟩, fun z => absurd z (by omega), fun _ => ⟨⟨by omega, by omega⟩, ⟨by omega, by omega⟩, ⟨by omega, by omega⟩, ⟨by omega, by omega⟩, ⟨by omega, by omega⟩, ⟨by omega, by omega⟩, fun z => ?_, fun z => hno (fun y => z (uni.mpr y k (by omega)))⟩⟩
      have go := ih (k + 1) (by omega) (fun j hj => by
        by_cases y : j = k
        · rw [y]; exact z
        · exact he j (by omega))
      rw [show ((k + 1 : Nat) : Int) = (k : Int) + 1 by omega] at go
      exact go
  have ev : v1 = (A.flatten.length : Int) := by rw [ev1]; omega
  rw [ev]
  exact loop A.flatten.length 0 (by omega) (fun j hj => absurd hj (Nat.not_lt_zero j))
/-- where a list stands among lists -/
def ixA (A : List (List Cd)) : List (List (List Cd)) → Nat := ixS A
theorem k_sintern (hS : ShX s μ q e) (hX : XP X) (hX2 : ∀ x w, X x w → x < 1024) (hI : CtT X q (tN q) (tS q) m T) (hSt : StI X m e As) (hA : GdL A) (k1 : am_kd μ r1 = (2, L1)) (b1 : L1 ≤ 2000) (hr1 : 94 ≤ r1 ∧ r1 < 107) (hL1 : A.length ≤ L1) (hrow : RwC X q m T r1 0 A)
    (hin : ∀ (μ' : am_Mem) (m' l' : PM) (e' : Nat), A ∈ As → Gx μ q e μ' q e' → ShX s μ' q e' → StI X m' e' As → (∀ c j, c < am_n μ → ¬ (WTl e c ∨ (c = 107 ∧ j = 3)) → m' c j = m c j) → (∀ c j, c < am_n μ → l' c j = l c j) → Q (.inl (some (.int (zI (ixS A As : Int))))) (sA μ' m' l'))
    (hnew : ∀ (μ' : am_Mem) (m' l' : PM) (e' : Nat), ¬ A ∈ As → As.length < 300 → Gx μ q e μ' q e' → ShX s μ' q e' → StI X m' e' (As ++ [A]) → (∀ c j, c < am_n μ → ¬ (WTl e c ∨ (c = 107 ∧ j = 3)) → m' c j = m c j) → (∀ c j, c < am_n μ → l' c j = l c j) → Q (.inl (some (.int (zI (As.length : Int))))) (sA μ' m' l'))
    (hfull : ∀ (μ' : am_Mem) (m' l' : PM) (e' : Nat), ¬ A ∈ As → As.length = 300 → Gx μ q e μ' q e' → ShX s μ' q e' → StI X m' e' As → (∀ c j, c < am_n μ → ¬ (WTl e c ∨ (c = 107 ∧ j = 3)) → m' c j = m c j) → (∀ c j, c < am_n μ → l' c j = l c j) → Q (.inr 3) (sA (am_nX μ') m' l')) :
    Wp (d + 3) 83 (0, [some (.ref 107), some (.ref r1), some (.int (zI (A.length : Int))), some (.ref 84), none], [], sA μ m l) Q := by
  obtain ⟨⟨s1, s2, s3, s4, s5, s6⟩, ⟨x1', x2'⟩, ⟨x3, x4, x5⟩, x6, x7⟩ := id hS
  refine K83_0 s1 s2 (TQ_q s3) x1' x2' (hE_of hS) k1 b1 ⟨fun μ' => Wp (d + 3) 83 (7, [some (.ref 107), some (.ref r1), some (.int (zI (A.length : Int))), some (.ref 84), none], [], μ') Q, noX, ?_, fun _ z => z, fun _ _ z => z.elim⟩
  refine k_tell (d := d) (Q := pV _ noX) hS hX hX2 hI hSt hA k1 b1 hr1 hL1 hrow (fun μ1 m1 l1 e1 G1 S1 t1 tn fr fl => ?_)
  show Wp (d + 3) 83 (7, _, [], _) Q
  obtain ⟨⟨r1', r2', r3', r4', r5', r6'⟩, ⟨y1, y2⟩, ⟨y3, y4, y5⟩, y6, y7⟩ := id S1
  have k1' : am_kd μ1 r1 = (2, L1) := (G1.2.1 r1 (by omega)).trans k1
  obtain ⟨u1, u2, u3, u4, u5, f, v1, v2, v3⟩ := id t1
  obtain ⟨g, g1, g2, g3, g4, g5, g6⟩ := id tn
  have hE1 := hE_of S1
  have frw : ∀ c j, c < am_n μ → ¬ (WTl e c ∨ (c = 107 ∧ j = 3)) → m1 c j = m c j := fun c j hc z => fr c j hc (fun y => z (Or.inl y))
  have smR_ : ∀ B : List (List Cd), iR (smH X B) := fun B => iR_x _
  refine K83_7 r1' r2' (TQ_q r3') y1 y2 hE1 k1' b1 ?_
  have loop : ∀ (h i : Nat), i + h = As.length → (∀ j, j < i → ¬ As.getD j [] = A) → Wp (d + 3) 83 (10, [some (.ref 107), some (.ref r1), some (.int (zI (A.length : Int))), some (.ref 84), some (.int (zI (i : Int)))], [], sA μ1 m1 l1) Q := by
    intro h
    induction h with
    | zero =>
      intro i hi hno
      have hnm : ¬ A ∈ As := fun z => by
        obtain ⟨j, hj, ej⟩ := (mem_gD As [] A).mp z
        exact hno j (by omega) ej
      refine K83_10 r1' r2' (TQ_q r3') y1 y2 hE1 k1' b1 ?_
      rw [u1]
      refine ⟨⟨by omega, by omega⟩, ⟨by omega, by omega⟩, fun _ => ⟨fun z => ?_, fun z => ?_⟩, fun z => absurd (by omega) z⟩
      · rw [show (As.length : Int) + 1 - 1 = (As.length : Int) by omega]
        generalize hm2 : up m1 107 3 ((As.length : Int) + 1) = m2
        have o2 : ∀ c j, ¬ (c = 107 ∧ j = 3) → m2 c j = m1 c j := fun c j z => by rw [← hm2, up_o z]
        have hl : (As ++ [A]).length = As.length + 1 := by rw [List.length_append, List.length_singleton]
        refine hnew μ1 m2 l1 e1 hnm (by omega) G1 S1 ⟨by rw [← hm2, up_s, hl]; omega, by omega, by rw [o2 _ _ (by omega)]; exact u3, fun j => by rw [o2 _ _ (by omega)]; exact u4 j, fun i' hi' => ?_, ?_⟩ (fun c j hc z => by rw [o2 c j (fun y => z (Or.inr y))]; exact frw c j hc z) fl
        · have key : ∀ (n : Nat) (B : List (List Cd)), St1 X m1 e1 n B → St1 X m2 e1 n B := fun n B ⟨f, a1, a2, a3, a4, a5, a6⟩ => ⟨f, by rw [o2 _ _ (by omega)]; exact a1, by rw [o2 _ _ (by omega)]; exact a2, a3, a4, CdR_cg (fun j _ _ => o2 _ _ (by omega)) a5, by rw [o2 _ _ (by omega)]; exact a6⟩
          by_cases y : i' = As.length
          · rw [y, gD_snX]
            exact ⟨key _ _ tn, hA⟩
          · rw [gD_app (by omega)]
            obtain ⟨b1', b2'⟩ := u5 i' (by omega)
            exact ⟨key _ _ b1', b2'⟩
        · have hf := GdL_f hA
          refine ⟨g + A.flatten.length, ?_, g3, by rw [hl]; omega⟩
          rw [o2 _ _ (by omega), hl, show ((As.length + 1 : Nat) : Int) = (As.length : Int) + 1 by omega, g2]
          omega
      · exact hfull μ1 m1 l1 e1 hnm (by omega) G1 S1 t1 frw fl
    | succ h ih =>
      intro i hi hno
      obtain ⟨b1', b2'⟩ := u5 i (by omega)
      have es : m1 110 (i : Int) = smH X (As.getD i []) := by
        obtain ⟨_, _, _, _, _, _, a6⟩ := b1'
        exact a6
      have nxt : ¬ As.getD i [] = A → Wp (d + 3) 83 (10, [some (.ref 107), some (.ref r1), some (.int (zI (A.length : Int))), some (.ref 84), some (.int (zI ((i : Int) + 1)))], [], sA μ1 m1 l1) Q := fun z => by
        have go := ih (i + 1) (by omega) (fun j hj => by
          by_cases y : j = i
          · rw [y]; exact z
          · exact hno j (by omega))
        rw [show ((i + 1 : Nat) : Int) = (i : Int) + 1 by omega] at go
        exact go
      refine K83_10 r1' r2' (TQ_q r3') y1 y2 hE1 k1' b1 ?_
      rw [u1, es, g6]
      refine ⟨⟨by omega, by omega⟩, ⟨by omega, by omega⟩, fun z => absurd z (by omega), fun _ => ⟨⟨by omega, by omega⟩, ⟨by omega, by omega⟩, smR_ _, smR_ _, fun z => nxt (fun y => z (by rw [y])), fun _ => ⟨fun y μ' => Wp (d + 3) 83 (44, [some (.ref 107), some (.ref r1), some (.int (zI (A.length : Int))), some (.ref 84), some (.int (zI (i : Int)))], [.int y], μ') Q, noX, ?_, fun _ _ z => z, fun _ _ z => z.elim⟩⟩⟩
      refine k_isLatest (d := d + 2) (Q := pI _ noX) S1 hX u1 u2 (by omega) b1' b2' tn hA u4 (fun z => ?_) (fun z => ?_)
      · show Wp (d + 3) 83 (44, _, [.int (zI 1)], _) Q
        have hm : A ∈ As := (mem_gD As [] A).mpr ⟨i, by omega, z⟩
        refine K83_44 r1' r2' (TQ_q r3') y1 y2 hE1 k1' b1 ⟨⟨by decide, by decide⟩, fun z => absurd z (by decide), fun _ => ?_⟩
        rw [← ixS_eq (show i < As.length by omega) z hno]
        exact hin μ1 m1 l1 e1 hm G1 S1 t1 frw fl
      · show Wp (d + 3) 83 (44, _, [.int (zI 0)], _) Q
        exact K83_44 r1' r2' (TQ_q r3') y1 y2 hE1 k1' b1 ⟨⟨by decide, by decide⟩, fun _ => nxt z, fun z => absurd rfl z⟩
  exact loop As.length 0 (by omega) (fun j hj => absurd hj (Nat.not_lt_zero j))
end CSI
