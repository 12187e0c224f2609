/-! ===== the class's terms: insert ===== -/
theorem zDiv_n {a b : Int} (ha : 0 ≤ a ∧ a ≤ 2147483647) (hb : 0 < b ∧ b ≤ 2147483647) : zDiv a b = a / b := by
  unfold zDiv
  have h1 : 0 ≤ a / b := Int.ediv_nonneg ha.1 (by omega)
  have h2 : a / b ≤ a := Int.ediv_le_self b ha.1
  rw [Int32.toInt_div, zI_toInt ⟨by omega, by omega⟩, zI_toInt ⟨by omega, by omega⟩, Int.tdiv_eq_ediv_of_nonneg ha.1]
  exact Int.bmod_eq_of_le (by omega) (by omega)
/-- a row from a place on moved by one -/
def mvR (m : PM) (r : Nat) (x5 x3 : Int) : Int → Int := fun j => if x5 + 1 ≤ j ∧ j < x3 + 1 then m r (j - 1) else m r j
section CIN
variable {d : Nat} {Q : Option Value ⊕ Nat → am_Mem → Prop} {X : Int → List Int → Prop} {μ : am_Mem} {m l : PM} {T q N P S a r1 L1 : Nat}
theorem K97_63 {x2 x3 x4 x5 x6 x7 : Int} {o8 : Option Value} (k1 : am_kd μ r1 = (2, L1)) (b1 : L1 ≤ 2000) (h5 : 0 ≤ x5) (h53 : x5 ≤ x3) (h3 : x3 < (L1 : Int)) (h : Q (.inl none) (sA μ (up (nwM m r1 (mvR m r1 x5 x3)) r1 x5 x4) l)) : Wp d 97 (63, [some (.ref 84), some (.ref r1), some (.int (zI x2)), some (.int (zI x3)), some (.int (zI x4)), some (.int (zI x5)), some (.int (zI x6)), some (.int (zI x7)), o8], [], sA μ m l) Q := by
  have k1' : am_kd (sA μ m l) r1 = (2, L1) := k1
  have es : zI x3 - zI x5 = zI (x3 - x5) := subE rfl rfl
  have ea : zI x5 + Int32.ofInt 1 = zI (x5 + 1) := addE rfl rfl
  have c1 := clE (x := zI (x3 - x5)) (a := x3 - x5) (n := 3000) rfl ⟨by omega, by omega⟩ (by decide)
  have c2 := clE (x := zI (x5 + 1)) (a := x5 + 1) (n := 3000) rfl ⟨by omega, by omega⟩ (by decide)
  have c3 := clE (x := zI x5) (a := x5) (n := 3000) rfl ⟨by omega, by omega⟩ (by decide)
  have neg : ∀ y : Int, iR y → 0 ≤ y → ¬ zI y < 0 := fun y hy h z => by
    rw [ltE rfl z0 hy ⟨by decide, by decide⟩] at z
    omega
  have ew : am_wA (sA μ m l) r1 (am_cp (am_A (sA μ m l) r1) (am_A (sA μ m l) r1) (zI x5).toNatClampNeg (zI (x5 + 1)).toNatClampNeg (zI (x3 - x5)).toNatClampNeg) = sA μ (nwM m r1 (mvR m r1 x5 x3)) l := by
    refine wA_sA μ m l r1 _ (mvR m r1 x5 x3) (fun j => ?_)
    unfold am_cp mvR
    by_cases y : (zI (x5 + 1)).toNatClampNeg ≤ j ∧ j < (zI (x5 + 1)).toNatClampNeg + (zI (x3 - x5)).toNatClampNeg
    · rw [if_pos y, if_pos ⟨by omega, by omega⟩]
      show zI (m r1 (((zI x5).toNatClampNeg + (j - (zI (x5 + 1)).toNatClampNeg) : Nat) : Int)) = _
      congr 2
      omega
    · rw [if_neg y, if_neg (fun z => y ⟨by omega, by omega⟩)]
      rfl
  have n1 := neg (x3 - x5) ⟨by omega, by omega⟩ (by omega)
  have n2 := neg (x5 + 1) ⟨by omega, by omega⟩ (by omega)
  have n3 := neg x5 ⟨by omega, by omega⟩ h5
  refine b97_63 (Or.inl ⟨Or.inl (by rw [k1']), by rw [k1']⟩) ?_ ?_ ?_ ?_ ?_
  · rw [es, ea]
    exact ⟨n1, n2, n3⟩
  · rw [es, ea, k1']
    exact ⟨by show _ ≤ L1; omega, by show _ ≤ L1; omega⟩
  · rw [es, ea, ew]
    exact k1E k1
  · rw [es, ea, ew]
    rintro (z | z)
    · exact n3 z
    · have e : (am_kd (sA μ (nwM m r1 (mvR m r1 x5 x3)) l) r1).2 = L1 := by
        show (am_kd μ r1).2 = L1
        rw [k1]
      rw [e] at z
      omega
  · rw [es, ea, ew, wfE rfl rfl c3 rfl]
    exact h
/-- a term among others, by their texts -/
theorem k_insert {b : Int} {u : Nat} {t : List Cd} {L : List (List Cd)} (H : CS μ) (TS_ : TS μ q N P S) (hq : TQ q N P S) (ha : a = 23 ∨ a = 43) (h0 : am_F μ 84 0 = a) (hX : XP X) (hN : NmS X a m) (hI : CtT X q N S m T) (k1 : am_kd μ r1 = (2, L1)) (b1 : L1 ≤ 2000) (hr1 : 94 ≤ r1 ∧ r1 < 185) (hb : 0 ≤ b ∧ b + (L.length : Int) < (L1 : Int)) (hrow : RwC X q m T r1 b L) (hL : SrT L) (hg : ∀ p, p ∈ L → GdC p ∧ p.length ≤ 2000) (hu : u < T) (cu : Cg X q m u t) (ht : GdC t) (hno : ¬ t ∈ L)
    (hk : ∀ (m' : PM) (k : Nat), k ≤ L.length → SrT (insL k t L) → RwC X q m' T r1 b (insL k t L) → (∀ c j, ¬ (c = r1 ∧ b ≤ j ∧ j ≤ b + (L.length : Int)) → m' c j = m c j) → Q (.inl none) (sA μ m' l)) :
    Wp (d + 3) 97 (0, [some (.ref 84), some (.ref r1), some (.int (zI b)), some (.int (zI (b + (L.length : Int)))), some (.int (zI (u : Int))), none, none, none, none], [], sA μ m l) Q := by
  -- the place is found
  have put : ∀ (k : Nat) (x6 x7 : Int) (o8 : Option Value), k ≤ L.length → (∀ i, i < k → ltT (tx (L.getD i [])) (tx t)) → (k < L.length → ltT (tx t) (tx (L.getD k []))) → Wp (d + 3) 97 (63, [some (.ref 84), some (.ref r1), some (.int (zI b)), some (.int (zI (b + (L.length : Int)))), some (.int (zI (u : Int))), some (.int (zI (b + (k : Int)))), some (.int (zI x6)), some (.int (zI x7)), o8], [], sA μ m l) Q := by
    intro k x6 x7 o8 hkl h1 h2
    refine K97_63 k1 b1 (by omega) (by omega) hb.2 ?_
    have fr : ∀ c j, ¬ (c = r1 ∧ b ≤ j ∧ j ≤ b + (L.length : Int)) → up (nwM m r1 (mvR m r1 (b + (k : Int)) (b + (L.length : Int)))) r1 (b + (k : Int)) (u : Int) c j = m c j := fun c j z => by
      rw [up_o (by omega)]
      by_cases y : c = r1
      · rw [y, nwM_s]
        unfold mvR
        rw [if_neg (by omega)]
      · exact nwM_o y
    have cg : ∀ t cs, t < T → Cg X q m t cs → Cg X q (up (nwM m r1 (mvR m r1 (b + (k : Int)) (b + (L.length : Int)))) r1 (b + (k : Int)) (u : Int)) t cs := fun t cs ht h => CgR_cg (T := T) (fun t _ => ⟨fr _ _ (by omega), fr _ _ (by omega), fun i _ => fr _ _ (by omega)⟩) _ t cs ht h
    refine hk _ k hkl (insL_srt hL hkl h1 h2) (fun i hi => ?_) fr
    rw [insL_len hkl] at hi
    by_cases y1 : i < k
    · obtain ⟨v, v1, v2, v3⟩ := hrow i (by omega)
      refine ⟨v, ?_, v2, by rw [insL_lt hkl y1]; exact cg _ _ v2 v3⟩
      rw [up_i (by omega), nwM_s]
      unfold mvR
      rw [if_neg (by omega)]
      exact v1
    · by_cases y2 : i = k
      · refine ⟨u, by rw [y2, up_s], hu, by rw [y2, insL_eq hkl]; exact cg _ _ hu cu⟩
      · obtain ⟨v, v1, v2, v3⟩ := hrow (i - 1) (by omega)
        refine ⟨v, ?_, v2, by rw [insL_gt hkl (by omega)]; exact cg _ _ v2 v3⟩
        rw [up_i (by omega), nwM_s]
        unfold mvR
        rw [if_pos ⟨by omega, by omega⟩, show b + (i : Int) - 1 = b + ((i - 1 : Nat) : Int) by omega]
        exact v1
  have hsrt : ∀ i j, i < j → j < L.length → ltT (tx (L.getD i [])) (tx (L.getD j [])) := fun i j hij hj => by
    have z := List.pairwise_iff_getElem.mp hL i j (by omega) hj hij
    rw [List.getD_eq_getElem?_getD, List.getD_eq_getElem?_getD, List.getElem?_eq_getElem (show i < L.length by omega), List.getElem?_eq_getElem hj]
    exact z
  have loop : ∀ (g lo hi : Nat) (x7 : Int) (o8 : Option Value), lo ≤ hi → hi ≤ L.length → hi - lo ≤ g → x7 + (g : Int) = b + (L.length : Int) → b ≤ x7 → (∀ i, i < lo → ltT (tx (L.getD i [])) (tx t)) → (∀ i, hi ≤ i → i < L.length → ltT (tx t) (tx (L.getD i []))) → Wp (d + 3) 97 (9, [some (.ref 84), some (.ref r1), some (.int (zI b)), some (.int (zI (b + (L.length : Int)))), some (.int (zI (u : Int))), some (.int (zI (b + (lo : Int)))), some (.int (zI (b + (hi : Int)))), some (.int (zI x7)), o8], [], sA μ m l) Q := by
    intro g
    induction g with
    | zero =>
      intro lo hi x7 o8 h1 h2 h3 h4 h5 h6 h7
      have e : lo = hi := by omega
      refine K97_9 H TS_ hq ha h0 k1 b1 ⟨⟨by omega, by omega⟩, ⟨by omega, by omega⟩, fun z => absurd z (by omega), fun _ => ⟨⟨by omega, by omega⟩, ⟨by omega, by omega⟩, fun _ => ?_, fun z => absurd (by omega) z⟩⟩
      exact put lo _ _ _ (by omega) h6 (fun hl => h7 lo (by omega) hl)
    | succ g ih =>
      intro lo hi x7 o8 h1 h2 h3 h4 h5 h6 h7
      refine K97_9 H TS_ hq ha h0 k1 b1 ⟨⟨by omega, by omega⟩, ⟨by omega, by omega⟩, fun z => absurd z (by omega), fun _ => ⟨⟨by omega, by omega⟩, ⟨by omega, by omega⟩, fun z => ?_, fun z => ?_⟩⟩
      · have e : lo = hi := by omega
        exact put lo _ _ _ (by omega) h6 (fun hl => h7 lo (by omega) hl)
      · have hlt : lo < hi := by omega
        have ed : zDiv (b + (lo : Int) + (b + (hi : Int))) 2 = (b + (lo : Int) + (b + (hi : Int))) / 2 := zDiv_n ⟨by omega, by omega⟩ ⟨by decide, by decide⟩
        obtain ⟨k, ek, hk1, hk2⟩ : ∃ k : Nat, zDiv (b + (lo : Int) + (b + (hi : Int))) 2 = b + (k : Int) ∧ lo ≤ k ∧ k < hi := by
          refine ⟨((b + (lo : Int) + (b + (hi : Int))) / 2 - b).toNat, ?_, ?_, ?_⟩ <;> omega
        rw [ek]
        obtain ⟨v, v1, v2, v3⟩ := hrow k (by omega)
        rw [v1]
        have hm : L.getD k [] ∈ L := gD_in (by omega)
        refine ⟨⟨by omega, by omega⟩, fun y μ' => Wp (d + 3) 97 (41, [some (.ref 84), some (.ref r1), some (.int (zI b)), some (.int (zI (b + (L.length : Int)))), some (.int (zI (u : Int))), some (.int (zI (b + (lo : Int)))), some (.int (zI (b + (hi : Int)))), some (.int (zI x7)), some (.int (zI (b + (k : Int))))], [.int y], μ') Q, noX, ?_, fun _ _ z => z, fun _ _ z => z.elim⟩
        refine k_compare (d := d) (Q := pI _ noX) H TS_ hq ha h0 hX hN hI v2 hu v3 cu (hg _ hm).1 ht (hg _ hm).2 (fun y hy => ?_)
        show Wp (d + 3) 97 (41, _, [.int (zI y)], _) Q
        refine K97_41 H TS_ hq ha h0 k1 b1 ⟨hy.1, fun w1 ew1 w2 ew2 => ?_⟩
        rcases hy.2 with ⟨s1, s2⟩ | ⟨s1, s2⟩ | ⟨s1, s2⟩
        · rw [if_neg (by omega)] at ew1 ew2
          rw [ew1, ew2, show b + (k : Int) + 1 = b + ((k + 1 : Nat) : Int) by omega]
          refine ih (k + 1) hi (x7 + 1) _ (by omega) h2 (by omega) (by omega) (by omega) (fun i hi' => ?_) h7
          by_cases y2 : i = k
          · rw [y2]; exact TLt_t s2
          · exact ltT_tr (hsrt i k (by omega) (by omega)) (TLt_t s2)
        · rw [s2] at hm
          exact absurd hm hno
        · rw [if_pos (by omega)] at ew1 ew2
          rw [ew1, ew2]
          refine ih lo k (x7 + 1) _ hk1 (by omega) (by omega) (by omega) (by omega) h6 (fun i hi1 hi2 => ?_)
          by_cases y2 : i = k
          · rw [y2]; exact TLt_t s2
          · exact ltT_tr (TLt_t s2) (hsrt k i (by omega) hi2)
  have z := loop L.length 0 L.length b none (by omega) (Nat.le_refl _) (by omega) rfl (Int.le_refl _) (fun i hi => absurd hi (Nat.not_lt_zero i)) (fun i h1 h2 => absurd h2 (by omega))
  rw [show b + ((0 : Nat) : Int) = b by omega] at z
  exact K97_0 H TS_ hq ha h0 k1 b1 z
end CIN
