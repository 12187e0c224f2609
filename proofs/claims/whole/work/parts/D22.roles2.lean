/-! ===== the reference's findRoles, whole ===== -/
/-- a sheet without fault -/
theorem chF_ok {rs : List Rul} (h : (chF rs).1 = 0) : (∀ r, r < rs.length → ¬ Bad2 rs r ∧ ¬ Bad3 rs r ∧ ¬ Bad5 rs r ∧ ¬ Bad6 rs r ∧ ¬ Bad7 rs r) ∧ ch4 rs = -1 := by
  unfold chF at h
  split at h
  · exact absurd (show (2 : Int) = 0 from h) (by decide)
  rename_i q2
  split at h
  · exact absurd (show (3 : Int) = 0 from h) (by decide)
  rename_i q3
  split at h
  · exact absurd (show (4 : Int) = 0 from h) (by decide)
  rename_i q4
  split at h
  · exact absurd (show (5 : Int) = 0 from h) (by decide)
  rename_i q5
  split at h
  · exact absurd (show (6 : Int) = 0 from h) (by decide)
  rename_i q6
  split at h
  · exact absurd (show (7 : Int) = 0 from h) (by decide)
  rename_i q7
  refine ⟨fun r hr => ⟨lst_no rs.length 0 r (Nat.zero_le _) (by omega), lst_no rs.length 0 r (Nat.zero_le _) (by omega), lst_no rs.length 0 r (Nat.zero_le _) (by omega), lst_no rs.length 0 r (Nat.zero_le _) (by omega), lst_no rs.length 0 r (Nat.zero_le _) (by omega)⟩, Classical.byContradiction q4⟩
theorem take_r {rs : List Rul} {r : Nat} (h : r < rs.length) : rs.take (r + 1) = rs.take r ++ [rs.getD r ruD] := by
  rw [List.take_succ_eq_append_getElem h, List.getD_eq_getElem?_getD, List.getElem?_eq_getElem h]
  rfl
/-- the roles that are kept, and their terms -/
def RfI (m : PM) (T : Nat) (L : List (List Cd)) : Prop := m 125 70 = (L.length : Int) ∧ L.length ≤ 4 ∧ ∀ k : Nat, k < L.length → (∃ u : Nat, u < T ∧ m 175 k = (u : Int) ∧ Tg m u (L.getD k [])) ∧ ∀ i : Nat, i < 3000 → m 170 (3000 * (k : Int) + i) = (tx (L.getD k [])).getD i 0
/-- what findRoles may write -/
abbrev WFr (c : Nat) (j : Int) : Prop := (149 ≤ c ∧ c ≤ 153) ∨ (c = 125 ∧ (j = 42 ∨ j = 58 ∨ j = 70 ∨ j = 80)) ∨ c = 161 ∨ c = 163 ∨ c = 164 ∨ c = 165 ∨ c = 166 ∨ c = 170 ∨ c = 175 ∨ c = 176
/-- the texts of the roles -/
def RlT (m : PM) (L : List (List Cd)) : Prop := m 125 70 = (L.length : Int) ∧ L.length ≤ 4 ∧ ∀ k : Nat, k < L.length → ∀ i : Nat, i < 3000 → m 170 (3000 * (k : Int) + i) = (tx (L.getD k [])).getD i 0
theorem gD_snoc {L : List (List Cd)} {x : List Cd} {k : Nat} : (L ++ [x]).getD k [] = if k = L.length then x else L.getD k [] := by
  by_cases h : k < L.length
  · rw [if_neg (by omega), List.getD_eq_getElem?_getD, List.getD_eq_getElem?_getD, List.getElem?_append_left h]
  · by_cases e : k = L.length
    · rw [if_pos e, e, List.getD_eq_getElem?_getD, List.getElem?_append_right (by omega), Nat.sub_self]
      rfl
    · rw [if_neg e, List.getD_eq_getElem?_getD, List.getD_eq_getElem?_getD, List.getElem?_eq_none (by rw [List.length_append, List.length_singleton]; omega), List.getElem?_eq_none (by omega)]
theorem TmR_gv {m : PM} : ∀ (f : Nat) (k : Int) (cs : List Cd), TmR f m k cs → gnd cs → ∀ i : Nat, i < cs.length → m 139 (k + i) = -1 := by
  intro f
  induction f with
  | zero => intro k cs h; exact absurd h (fun z => z)
  | succ f ih =>
    intro k cs h hg i hi
    cases cs with
    | nil => exact absurd hi (Nat.not_lt_zero _)
    | cons c rest =>
      obtain ⟨a, w⟩ := c
      have ha : ¬ 5 ≤ a := by
        have := hg (a, w) List.mem_cons_self
        show ¬ 5 ≤ (a, w).1
        omega
      obtain ⟨ps, h1, h2, h3, h4, h5, h6, h7⟩ := (TmR_n ha).mp h
      cases i with
      | zero =>
        rw [show k + ((0 : Nat) : Int) = k by omega]
        exact h4
      | succ i =>
        have key : ∀ (qs : List (List Cd)) (j : Nat) (x : Int), (∀ q, q ∈ qs → gnd q) → PsR (TmR f m) m 141 k j x qs → ∀ i : Nat, i < qs.flatten.length → m 139 (x + i) = -1 := by
          intro qs
          induction qs with
          | nil => intro j x _ _ i hi; exact absurd hi (Nat.not_lt_zero _)
          | cons q qs ihq =>
            intro j x hq hP i hi
            obtain ⟨a1, a2, a3⟩ := hP
            have hl : (q :: qs).flatten.length = q.length + qs.flatten.length := by simp
            by_cases y : i < q.length
            · exact ih x q a2 (hq q List.mem_cons_self) i y
            · have z := ihq (j + 1) (x + q.length) (fun q' h' => hq q' (List.mem_cons_of_mem _ h')) a3 (i - q.length) (by omega)
              rw [show x + (i : Int) = x + (q.length : Int) + ((i - q.length : Nat) : Int) by omega]
              exact z
        have z := key ps 0 (k + 1) (fun q hq c hc => hg c (List.mem_cons_of_mem _ (by rw [← h2]; exact List.mem_flatten.mpr ⟨q, hq, hc⟩))) h7 i (by rw [h2]; have : i + 1 < rest.length + 1 := hi; omega)
        rw [show k + ((i + 1 : Nat) : Int) = k + 1 + (i : Int) by omega]
        exact z
section RFR2
variable {d : Nat} {μ : am_Mem} {l : PM} {Q : Option Value ⊕ Nat → am_Mem → Prop}
theorem fr_11 {m0 : PM} {rs : List Rul} (H : RS μ) (hv0 : RV m0 rs) (hc : (chF rs).1 = 0) (hl : OkL rs) (hq : ∀ m' : PM, RlT m' (rlS rs) → (∀ c j, ¬ WFr c j → m' c j = m0 c j) → (∀ j, iR (m' 165 j)) → (∀ j, iR (m' 151 j)) → (∀ j, iR (m' 175 j)) → Q (.inl none) (sA μ m' l)) :
    ∀ (f r T : Nat) (m : PM) (o2 o3 o4 : Option Value), r + f = rs.length → RfI m T (rlS (rs.take r)) → TtI m T → TtU m T → TtL m T → T ≤ 1000 * r → (∀ c j, ¬ WFr c j → m c j = m0 c j) → (∀ j, iR (m 165 j)) → (∀ j, iR (m 175 j)) → Wp (d + 3) 201 (11, [some (.ref 125), some (.int (zI (r : Int))), o2, o3, o4], [], sA μ m l) Q := by
  have n60 := (RV_n hv0).2.1
  have hck := chF_ok hc
  intro f
  induction f with
  | zero =>
    intro r T m o2 o3 o4 hr hI hT hU hTL hb fr r5 r7
    have hv : RV m rs := RV_cg2 (fun c j q => fr c j (by omega)) hv0
    have hn := (RV_n hv).1
    refine R201_11 H ⟨⟨by omega, by omega⟩, by rw [hn]; exact ⟨by omega, by omega⟩, fun _ => ?_, fun q => by rw [hn] at q; omega⟩
    rw [List.take_of_length_le (by omega)] at hI
    exact hq m ⟨hI.1, hI.2.1, fun k hk => (hI.2.2 k hk).2⟩ fr r5 hT.2.2.1 r7
  | succ f ih =>
    intro r T m o2 o3 o4 hr hI hT hU hTL hb fr r5 r7
    have hv : RV m rs := RV_cg2 (fun c j q => fr c j (by omega)) hv0
    have hn := RV_n hv
    have hlt : r < rs.length := by omega
    obtain ⟨hd1, hd2, hd3, hd4, hd5, _, _, hA⟩ := RV_head hv hlt
    have hD := hv.2.2.1
    have hW := hv.2.1
    have e2 := nX_wd hD hd3 (j := 2) (by decide)
    have es := rlS_snoc (rs.take r) (rs.getD r ruD)
    rw [← take_r hlt] at es
    have stay : ∀ o2 o3 o4 : Option Value, rlA (rlS (rs.take r)) (rs.getD r ruD) = rlS (rs.take r) → Wp (d + 3) 201 (11, [some (.ref 125), some (.int (zI ((r : Int) + 1))), o2, o3, o4], [], sA μ m l) Q := fun o2 o3 o4 e => ih (r + 1) T m o2 o3 o4 (by omega) (by rw [es, e]; exact hI) hT hU hTL (by omega) fr r5 r7
    refine R201_11 H ⟨⟨by omega, by omega⟩, by rw [hn.1]; exact ⟨by omega, by omega⟩, fun q => by rw [hn.1] at q; omega, fun _ => ⟨⟨by omega, by omega⟩, ⟨by omega, by omega⟩, hd4, fun q => ?_, fun q => ⟨by rw [hI.1]; have := hI.2.1; exact ⟨by omega, by omega⟩, fun q4 => ?_, fun q4 => ?_⟩⟩⟩
    · refine stay _ _ _ ?_
      unfold rlA
      rw [if_neg (fun z => q (e2.mpr z.1))]
    · have ew := e2.mp (Classical.byContradiction q)
      have h4 : ¬ (rlS (rs.take r)).length = 4 := fun z => q4 (by rw [hI.1, z]; rfl)
      obtain ⟨o1, o2', o3'⟩ := role_ok (hck.1 r hlt).1 (hck.1 r hlt).2.1 ew
      generalize hL : rlS (rs.take r) = L at *
      have hL4 := hI.2.1
      obtain ⟨_, b0, b2, k0, b3, b4, b5⟩ := hA
      obtain ⟨cs, hcs⟩ : ∃ cs, (rs.getD r ruD).1.2 = [cs] := List.length_eq_one_iff.mp o1
      rw [hcs] at b4 b5
      obtain ⟨p1, p2, _⟩ := b5
      have hfl : ([cs] : List (List Cd)).flatten.length = cs.length := by simp
      rw [hfl] at b4
      have hg : gnd cs := o3' cs (by rw [hcs]; exact List.mem_singleton.mpr rfl)
      have hru : rs.getD r ruD ∈ rs := (mem_gD rs ruD _).mpr ⟨r, hlt, rfl⟩
      have hw : OkW cs := hl _ hru cs (by rw [hcs]; exact List.mem_singleton.mpr rfl)
      have hwf := TmR_wfS 11 k0 cs p2
      have htl : (tx cs).length ≤ 2999 := by
        have := tx_len hwf hg
        omega
      have hx : rlA L (rs.getD r ruD) = if cs ∈ L then L else L ++ [cs] := by
        unfold rlA
        rw [hcs]
        by_cases y : cs ∈ L
        · rw [if_pos y]
          exact if_neg (fun z => z.2.2 y)
        · rw [if_neg y]
          exact if_pos ⟨ew, h4, y⟩
      refine ⟨_, _, c_take H hv hlt, fun μ' hp => ?_, fun _ _ z => z.elim⟩
      obtain ⟨m1, rfl, _, _, f1⟩ := hp
      have ep : m1 136 (4 * m1 131 (r : Int)) = k0 := by
        rw [f1 131 _ (by omega), f1 136 _ (by omega)]
        rw [show 4 * m 131 (r : Int) = 4 * m 131 (r : Int) + ((0 : Nat) : Int) by omega]
        exact p1
      have hv1 : RV m1 rs := RV_cg2 (fun c j q => f1 c j (by omega)) hv
      have p21 : TmR 11 m1 k0 cs := TmR_cg (fun x w z => nX_cg (f1 _ _ (by omega)) (fun i => f1 _ _ (by omega)) (fun i => f1 _ _ (by omega)) z) 11 k0 cs (fun i _ _ => ⟨f1 _ _ (by omega), f1 _ _ (by omega), f1 _ _ (by omega), f1 _ _ (by omega)⟩) (fun i _ _ => f1 _ _ (by omega)) p2
      have hT1 : TtI m1 T := TtI_cg (f1 _ _ (by omega)) (fun t _ => f1 _ _ (by omega)) (fun t _ => f1 _ _ (by omega)) (fun i _ _ => f1 _ _ (by omega)) (fun i => by rw [f1 _ _ (by omega)]; exact hT.2.2.1 i) (fun i _ => f1 _ _ (by omega)) hT
      have hU1 : TtU m1 T := TtU_cg hT (fun t _ => f1 _ _ (by omega)) (fun t _ => f1 _ _ (by omega)) (fun i _ _ => f1 _ _ (by omega)) hU
      have hL1 : TtL m1 T := TtL_cg hT (f1 _ _ (by omega)) (fun i => f1 _ _ (by omega)) (fun t _ => f1 _ _ (by omega)) (fun t _ => f1 _ _ (by omega)) (fun i _ _ => f1 _ _ (by omega)) (fun t _ => f1 _ _ (by omega)) hTL
      have hn2 := RV_n hv1
      refine R201_50 H ⟨⟨by omega, by omega⟩, by rw [f1 131 _ (by omega)]; exact ⟨by omega, by omega⟩, fun x μ' => ∃ (m2 : PM) (T2 : Nat), x = zI (m2 165 k0) ∧ μ' = sA μ m2 l ∧ T ≤ T2 ∧ T2 ≤ T + cs.length ∧ TtI m2 T2 ∧ TtU m2 T2 ∧ TtL m2 T2 ∧ (∀ c i, ¬ (WMd T c i ∨ (c = 165 ∧ k0 ≤ i ∧ i < k0 + (cs.length : Int))) → m2 c i = m1 c i) ∧ (∀ i, iR (m2 165 i)) ∧ OkM (fun _ => []) 1 m2 T2 k0 cs, noX, ?_, ?_, fun _ _ z => z.elim⟩
      · rw [ep]
        refine c_made (β := fun _ => []) H hT1 hU1 hL1 hv1.2.2.1 hn2.2.2.2.1 (by omega) (Or.inr rfl) (fun i => by rw [f1 _ _ (by omega)]; exact r5 i) p21 ⟨b3, by have := hn.2.2.2.2; omega⟩ (fun i hi z => ?_) (fun m2 T2 z1 z2 _ z4 z5 zL _ z6 z7 z8 _ => ⟨m2, T2, rfl, rfl, z1, z2, z4, z5, zL, z6, z7, z8⟩)
        have := TmR_gv 11 k0 cs p21 hg i hi
        omega
      · rintro x μ' ⟨m2, T2, rfl, rfl, z1, z2, z4, z5, zL, z6, z7, z8⟩
        obtain ⟨u, u1, u2, u3⟩ : ∃ u : Nat, m2 165 k0 = (u : Int) ∧ u < T2 ∧ Tg m2 u cs := by
          rcases z8 with z8 | z8
          · rw [sbC_gnd cs hg] at z8
            exact z8
          · exact absurd z8.1 (by decide)
        rw [u1]
        have f2 : ∀ c i, ¬ (WMd T c i ∨ c = 161 ∨ c = 163 ∨ c = 164 ∨ c = 165 ∨ (c = 125 ∧ i = 58)) → m2 c i = m c i := fun c i q => by rw [z6 c i (by omega), f1 c i (by omega)]
        have f20 : ∀ c i, ¬ WFr c i → m2 c i = m0 c i := fun c i q => by rw [f2 c i (by omega)]; exact fr c i q
        have hv2 : RV m2 rs := RV_cg2 (fun c j q => f20 c j (by omega)) hv0
        have hT2 : T2 ≤ 1000 * (r + 1) := by omega
        have e70 : m2 125 70 = (L.length : Int) := by rw [f2 _ _ (by omega)]; exact hI.1
        have old : ∀ k : Nat, k < L.length → ∃ u' : Nat, u' < T2 ∧ m2 175 k = (u' : Int) ∧ Tg m2 u' (L.getD k []) := fun k hk => by
          obtain ⟨⟨u', v1, v2, v3⟩, _⟩ := hI.2.2 k hk
          refine ⟨u', by omega, by rw [f2 _ _ (by omega)]; exact v2, ?_⟩
          exact TgR_cg (T := T) (f2 _ _ (by omega)) (fun i => f2 _ _ (by omega)) (fun i => f2 _ _ (by omega)) (fun t ht => ⟨f2 _ _ (by omega), f2 _ _ (by omega), fun k hk => f2 _ _ (by omega)⟩) _ u' _ v1 v3
        have texts : ∀ k : Nat, k < L.length → ∀ i : Nat, i < 3000 → m2 170 (3000 * (k : Int) + i) = (tx (L.getD k [])).getD i 0 := fun k hk i hi => by
          rw [f2 _ _ (by omega)]
          exact (hI.2.2 k hk).2 i hi
        have isIn : (∃ j : Nat, j < L.length ∧ m2 175 j = (u : Int)) ↔ cs ∈ L := by
          constructor
          · rintro ⟨j, j1, j2⟩
            obtain ⟨u', v1, v2, v3⟩ := old j j1
            have eu : u' = u := by omega
            rw [eu] at v3
            rw [TgR_fun _ _ _ _ _ u3 v3]
            rw [List.getD_eq_getElem?_getD, List.getElem?_eq_getElem j1]
            exact List.getElem_mem j1
          · intro hm
            obtain ⟨j, j1, j2⟩ := mem_gD2 hm
            obtain ⟨u', v1, v2, v3⟩ := old j j1
            rw [j2] at v3
            exact ⟨j, j1, by rw [v2, Tg_in z5 hv2.2.2.1 v1 u2 v3 u3]⟩
        have r72 : ∀ j, iR (m2 175 j) := fun j => by rw [f2 _ _ (by omega)]; exact r7 j
        have h130 := z4.2.1
        refine R201_68 H ?_
        have go := fr_74 (d := d) (l := l) (Q := Q) (m := m2) (k := L.length) (x1 := (r : Int)) (x2 := (u : Int)) H (by omega) e70 r72 ⟨by omega, by omega⟩ ?_ L.length 0 (by omega)
        · rw [bP_0 (by rintro ⟨j, j1, _⟩; omega)] at go
          exact go
        refine R201_74 H ⟨⟨by omega, by omega⟩, by rw [e70]; exact ⟨by omega, by omega⟩, fun _ => ⟨bP_R _, fun y => ?_, fun y => ⟨by rw [e70]; exact ⟨by omega, by omega⟩, ?_⟩⟩, fun y => by omega⟩
        · have hin : cs ∈ L := isIn.mp (Classical.byContradiction fun z => y (bP_0 z))
          rw [if_pos hin] at hx
          refine ih (r + 1) T2 m2 _ _ _ (by omega) ?_ z4 z5 zL hT2 f20 z7 r72
          rw [es, hx]
          exact ⟨e70, hI.2.1, fun k hk => ⟨old k hk, texts k hk⟩⟩
        · have hout : ¬ cs ∈ L := fun z => y (by rw [bP_1 (isIn.mpr z)]; decide)
          rw [if_neg hout] at hx
          rw [e70]
          rintro m3 e3
          have f3 : ∀ c i, ¬ (c = 175 ∧ i = (L.length : Int)) → m3 c i = m2 c i := fun c i q => by rw [e3]; exact up_o q
          have hv3 : RV m3 rs := RV_cg2 (fun c j q => f3 c j (by omega)) hv2
          have u33 : TgR 11 m3 u cs := Tg_dep 11 _ u cs hwf (TgR_cg (T := u + 1) (f3 _ _ (by omega)) (fun i => f3 _ _ (by omega)) (fun i => f3 _ _ (by omega)) (fun t ht => ⟨f3 _ _ (by omega), f3 _ _ (by omega), fun k hk => f3 _ _ (by omega)⟩) _ u _ (by omega) u3)
          refine ⟨_, _, c_write (f := 11) H u33 (by decide) (by omega) hv3.2.1 (RV_n hv3).2.2.2.1 htl, fun μ' hp => ?_, fun _ _ z => z.elim⟩
          obtain ⟨m4, rfl, w1, _, w3⟩ := hp
          refine R201_129 H ?_
          have e704 : m4 125 70 = (L.length : Int) := by rw [w3 _ _ (by omega), f3 _ _ (by omega)]; exact e70
          have go := fr_132 (d := d) (l := l) (Q := Q) (m0 := m4) (L := tx cs) (k := L.length) (x1 := (r : Int)) (x2 := (u : Int)) (x3 := bP (∃ j : Nat, j < L.length ∧ m2 175 j = (u : Int))) H w1 (by omega) (by omega) e704 ?_ 3000 0 m4 (by omega) (fun j hj => absurd hj (Nat.not_lt_zero j)) (fun _ _ _ => rfl)
          · exact go
          intro m5 y1 y2 y3 y4 o4
          have f5 : ∀ c i, ¬ ((c = 175 ∧ i = (L.length : Int)) ∨ WWr c i ∨ (c = 170 ∧ 3000 * (L.length : Int) ≤ i) ∨ (c = 125 ∧ i = 70)) → m5 c i = m2 c i := fun c i q => by rw [y3 c i (by omega), w3 c i (by omega), f3 c i (by omega)]
          refine ih (r + 1) T2 m5 _ _ _ (by omega) ?_ (TtI_cg (f5 _ _ (by omega)) (fun t _ => f5 _ _ (by omega)) (fun t _ => f5 _ _ (by omega)) (fun i _ _ => f5 _ _ (by omega)) (fun i => by rw [f5 _ _ (by omega)]; exact z4.2.2.1 i) (fun i _ => f5 _ _ (by omega)) z4) (TtU_cg z4 (fun t _ => f5 _ _ (by omega)) (fun t _ => f5 _ _ (by omega)) (fun i _ _ => f5 _ _ (by omega)) z5) (TtL_cg z4 (f5 _ _ (by omega)) (fun i => f5 _ _ (by omega)) (fun t _ => f5 _ _ (by omega)) (fun t _ => f5 _ _ (by omega)) (fun i _ _ => f5 _ _ (by omega)) (fun t _ => f5 _ _ (by omega)) zL) hT2 (fun c i q => by rw [f5 c i (by omega)]; exact f20 c i q) (fun j => by rw [f5 _ _ (by omega)]; exact z7 j) (fun j => ?_)
          · rw [es, hx]
            refine ⟨by rw [y1, List.length_append, List.length_singleton]; omega, by rw [List.length_append, List.length_singleton]; omega, fun k hk => ?_⟩
            rw [List.length_append, List.length_singleton] at hk
            have tg : ∀ (v : Nat) (q : List Cd), v < T2 → Tg m2 v q → Tg m5 v q := fun v q hvT hh => TgR_cg (T := T2) (f5 _ _ (by omega)) (fun i => f5 _ _ (by omega)) (fun i => f5 _ _ (by omega)) (fun t ht => ⟨f5 _ _ (by omega), f5 _ _ (by omega), fun k hk => f5 _ _ (by omega)⟩) _ v _ hvT hh
            rw [gD_snoc]
            by_cases ek : k = L.length
            · rw [if_pos ek, ek]
              refine ⟨⟨u, u2, ?_, tg u cs u2 u3⟩, fun i hi => y2 i hi⟩
              rw [y3 _ _ (by omega), w3 _ _ (by omega), e3, up_s]
            · rw [if_neg ek]
              obtain ⟨u', v1, v2, v3⟩ := old k (by omega)
              refine ⟨⟨u', v1, by rw [f5 _ _ (by omega)]; exact v2, tg u' _ v1 v3⟩, fun i hi => ?_⟩
              rw [f5 _ _ (by omega)]
              exact texts k (by omega) i hi
          · by_cases ej : j = (L.length : Int)
            · rw [ej, y3 _ _ (by omega), w3 _ _ (by omega), e3, up_s]
              exact ⟨by omega, by omega⟩
            · rw [f5 _ _ (by omega)]
              exact r72 j
    · refine stay _ _ _ ?_
      have e4 : m 125 70 = 4 := Classical.byContradiction q4
      have e5 : (rlS (rs.take r)).length = 4 := by rw [hI.1] at e4; omega
      unfold rlA
      exact if_neg (fun z => z.2.1 e5)
/-- the reference's roles -/
theorem c_findRoles {m : PM} {rs : List Rul} (H : RS μ) (hv : RV m rs) (hc : (chF rs).1 = 0) (hl : OkL rs) (r5 : ∀ j, iR (m 165 j)) (r1 : ∀ j, iR (m 151 j)) (r7 : ∀ j, iR (m 175 j)) : Wp (d + 3) 201 (0, [some (.ref 125), none, none, none, none], [], sA μ m l) (pV (fun μ' => ∃ m', μ' = sA μ m' l ∧ RlT m' (rlS rs) ∧ (∀ c j, ¬ WFr c j → m' c j = m c j) ∧ (∀ j, iR (m' 165 j)) ∧ (∀ j, iR (m' 151 j)) ∧ (∀ j, iR (m' 175 j))) noX) := by
  refine R201_0 H ⟨_, _, c_noTerms H r1, fun μ' hp => ?_, fun _ _ z => z.elim⟩
  obtain ⟨m1, rfl, h1, h2, h3⟩ := hp
  refine R201_4 H ?_
  rintro m2 e2
  have f2 : ∀ c j, ¬ (c = 153 ∨ (c = 125 ∧ (j = 42 ∨ j = 70))) → m2 c j = m c j := fun c j q => by rw [e2, up_o (by omega)]; exact h3 c j (by omega)
  have f21 : ∀ c j, ¬ (c = 125 ∧ j = 70) → m2 c j = m1 c j := fun c j q => by rw [e2, up_o (by omega)]
  have z := fr_11 (d := d) (l := l) (Q := pV (fun μ' => ∃ m', μ' = sA μ m' l ∧ RlT m' (rlS rs) ∧ (∀ c j, ¬ WFr c j → m' c j = m c j) ∧ (∀ j, iR (m' 165 j)) ∧ (∀ j, iR (m' 151 j)) ∧ (∀ j, iR (m' 175 j))) noX) (m0 := m) (rs := rs) H hv hc hl (fun m' a1 a2 a3 a4 a5 => ⟨m', rfl, a1, a2, a3, a4, a5⟩) rs.length 0 0 m2 none none none (by omega) ?_ (TtI_cg (f21 _ _ (by omega)) (fun t _ => f21 _ _ (by omega)) (fun t _ => f21 _ _ (by omega)) (fun i _ _ => f21 _ _ (by omega)) (fun i => by rw [f21 _ _ (by omega)]; exact h1.2.2.1 i) (fun i _ => f21 _ _ (by omega)) h1) (TtU_cg h1 (fun t _ => f21 _ _ (by omega)) (fun t _ => f21 _ _ (by omega)) (fun i _ _ => f21 _ _ (by omega)) h2) (fun t ht => absurd ht (Nat.not_lt_zero t)) (by omega) (fun c j q => f2 c j (by omega)) (fun j => by rw [f2 _ _ (by omega)]; exact r5 j) (fun j => by rw [f2 _ _ (by omega)]; exact r7 j)
  · exact z
  · exact ⟨by rw [e2, up_s]; rfl, by show (0 : Nat) ≤ 4; omega, fun k hk => absurd hk (Nat.not_lt_zero k)⟩
end RFR2
