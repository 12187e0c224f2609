/-! ===== the reference: gather, gatherMoves ===== -/
theorem cnt_skip {S : List Atm} {w : List Int} : ∀ (f k : Nat), k + f ≤ S.length → (∀ g, k ≤ g → g < k + f → ¬ (S.getD g ([], [])).1 = w) → cntA (S.take (k + f)) w = cntA (S.take k) w ∧ ∀ ps, ((w, ps) : Atm) ∈ S.take (k + f) ↔ ((w, ps) : Atm) ∈ S.take k := by
  intro f
  induction f with
  | zero => intro k _ _; exact ⟨rfl, fun _ => Iff.rfl⟩
  | succ f ih =>
    intro k hk h
    obtain ⟨a, b⟩ := ih k (by omega) (fun g h1 h2 => h g h1 (by omega))
    have hn := h (k + f) (by omega) (by omega)
    rw [show k + (f + 1) = k + f + 1 by omega, take_a (by omega), cnt_app, if_neg hn, a]
    refine ⟨rfl, fun ps => ?_⟩
    rw [← b ps, List.mem_append, List.mem_singleton]
    refine ⟨fun z => ?_, Or.inl⟩
    rcases z with z | z
    · exact z
    · rw [← z] at hn; exact absurd rfl hn
theorem cnt_tk {S : List Atm} {w : List Int} {k : Nat} : cntA (S.take k) w ≤ cntA S w := by
  have e : S = S.take k ++ S.drop k := (List.take_append_drop k S).symm
  unfold cntA
  conv => rhs; rw [e]
  rw [List.filter_append, List.length_append]
  omega
theorem tk_no {S : List Atm} (h : S.Nodup) {k : Nat} (hk : k < S.length) : ¬ S.getD k ([], []) ∈ S.take k := by
  intro z
  have e : S.take (k + 1) = S.take k ++ [S.getD k ([], [])] := take_a hk
  have n : (S.take (k + 1)).Nodup := List.Pairwise.sublist (List.take_sublist _ _) h
  rw [e] at n
  exact (List.nodup_append.mp n).2.2 _ z _ (List.mem_singleton.mpr rfl) rfl
/-- the next atom of a relation, or the end -/
def CuA (S : List Atm) (w : List Int) (x3 : Int) (k : Nat) : Prop := (x3 = -1 ∧ k = S.length) ∨ (x3 = (k : Int) ∧ k < S.length ∧ (S.getD k ([], [])).1 = w)
section RGA
variable {d : Nat} {μ : am_Mem} {l : PM} {Q : Option Value ⊕ Nat → am_Mem → Prop} {T : Nat} {W : Int → Nat} {rs : List Rul} {S : List Atm}
/-- which atoms are a relation's -/
theorem WkR_is {m : PM} (hw : WkR W rs m T S) {x : Int} {w : List Int} (hx : nX m x w) {g : Nat} (hg : g < S.length) : m 154 (g : Int) = x ↔ (S.getD g ([], [])).1 = w := by
  have a := (hw.2.2.2.2.2.1 g hg).1
  constructor
  · intro e
    rw [e] at a
    exact nX_fun a hx
  · intro e
    rw [e] at a
    exact nX_in2 hw.1.2.2.1 a hx
theorem cu_first {m : PM} (hw : WkR W rs m T S) {x : Int} {w : List Int} (hx : nX m x w) : ∃ k : Nat, CuA S w (m 158 x) k ∧ cntA (S.take k) w = 0 ∧ ∀ ps, ¬ ((w, ps) : Atm) ∈ S.take k := by
  have e : m 158 x = fsF (m 154) x S.length := (hw.2.2.2.2.1.2.2.2.1 x hx.1 hx.2.1).2.1
  have z : ∀ k : Nat, k ≤ S.length → (∀ g : Nat, g < k → ¬ m 154 (g : Int) = x) → cntA (S.take k) w = 0 ∧ ∀ ps, ¬ ((w, ps) : Atm) ∈ S.take k := fun k hk h => by
    obtain ⟨a, b⟩ := cnt_skip (S := S) (w := w) k 0 (by omega) (fun g _ h2 y => h g (by omega) ((WkR_is hw hx (by omega)).mpr y))
    rw [Nat.zero_add] at a b
    exact ⟨a, fun ps y => absurd ((b ps).mp y) List.not_mem_nil⟩
  rcases fsF_sp (m 154) x S.length with ⟨e1, e2⟩ | ⟨c, e1, e2, e3, e4⟩
  · exact ⟨S.length, Or.inl ⟨e.trans e1, rfl⟩, z S.length (Nat.le_refl _) e2⟩
  · exact ⟨c, Or.inr ⟨e.trans e1, e2, (WkR_is hw hx e2).mp e3⟩, z c (by omega) e4⟩
theorem cu_next {m : PM} (hw : WkR W rs m T S) {x : Int} {w : List Int} (hx : nX m x w) {k : Nat} (hk : k < S.length) (hkw : (S.getD k ([], [])).1 = w) : ∃ k' : Nat, CuA S w (m 156 (k : Int)) k' ∧ k + 1 ≤ k' ∧ k' ≤ S.length ∧ cntA (S.take k') w = cntA (S.take (k + 1)) w ∧ ∀ ps, ((w, ps) : Atm) ∈ S.take k' ↔ ((w, ps) : Atm) ∈ S.take (k + 1) := by
  have e : m 156 (k : Int) = nxF (m 154) k S.length := (hw.2.2.2.2.1.2.2.1 k hk).2.2.2
  have ek : m 154 (k : Int) = x := (WkR_is hw hx hk).mpr hkw
  have z : ∀ k' : Nat, k + 1 ≤ k' → k' ≤ S.length → (∀ g : Nat, k < g → g < k' → ¬ m 154 (g : Int) = m 154 (k : Int)) → cntA (S.take k') w = cntA (S.take (k + 1)) w ∧ ∀ ps, ((w, ps) : Atm) ∈ S.take k' ↔ ((w, ps) : Atm) ∈ S.take (k + 1) := fun k' h1 h2 h => by
    obtain ⟨a, b⟩ := cnt_skip (S := S) (w := w) (k' - (k + 1)) (k + 1) (by omega) (fun g g1 g2 y => h g (by omega) (by omega) (by rw [ek]; exact (WkR_is hw hx (by omega)).mpr y))
    rw [show k + 1 + (k' - (k + 1)) = k' by omega] at a b
    exact ⟨a, b⟩
  rcases nxF_sp (m 154) k S.length with ⟨e1, e2⟩ | ⟨c, e1, e2, e3, e4, e5⟩
  · exact ⟨S.length, Or.inl ⟨e.trans e1, rfl⟩, by omega, Nat.le_refl _, z S.length (by omega) (Nat.le_refl _) e2⟩
  · rw [ek] at e4
    exact ⟨c, Or.inr ⟨e.trans e1, e3, (WkR_is hw hx e3).mp e4⟩, by omega, by omega, z c (by omega) (by omega) e5⟩
/-- a term of an atom is written -/
theorem c_writeA {m : PM} {u : Nat} {t : List Cd} (H : RS μ) (hb : TbR m T) (hu : u < T) (ht : Tg m u t) (h48 : tlC t ≤ 48) (hn : NeC t) : Wp d 208 (0, [some (.ref 125), some (.int (zI (u : Int))), none, none, none], [], sA μ m l) (pV (fun μ' => ∃ m', μ' = sA μ m' l ∧ RwT m' t ∧ ∀ c j, ¬ WWr c j → m' c j = m c j) noX) := by
  have gt := GdT_Tg ht hn
  have g48 := GdT_48 gt h48
  have hT := hb.1.2.1
  have hf : TgR t.length m u t := Tg_dep _ _ u t (wfS_len _ t (TgR_wf _ u t ht)) ht
  refine Wp.mono (c_write (d := d) (l := l) H hf (by omega) (by omega) hb.2.2.2.1 hb.2.2.2.2.2 (by omega)) ?_
  intro o μ' ho
  cases o with
  | inr e => exact ho
  | inl o =>
    cases o with
    | some v => exact ho
    | none =>
      obtain ⟨m', e1, e2, e3, e4⟩ := ho
      refine ⟨m', e1, fun j hj => ?_, e4⟩
      by_cases y : j < (tx t).length
      · exact e2.2 j y
      · rw [e3 j (by omega) hj, gD_out (by omega)]
/-- what gather writes -/
abbrev WGa (i : Int) (c : Nat) (j : Int) : Prop := c = 166 ∨ c = 176 ∨ (c = 125 ∧ j = 80) ∨ (c = 172 ∧ j = i) ∨ (c = 171 ∧ 2940 * i ≤ j ∧ j < 2940 * i + 2940)
theorem c_gather {m0 : PM} {x i : Int} {w : List Int} (H : RS μ) (hw0 : WkR W rs m0 T S) (hnd : S.Nodup) (h48 : ∀ a, a ∈ S → ∀ p, p ∈ a.2 → tlC p ≤ 48 ∧ NeC p) (hx : nX m0 x w) (hW1 : W x = 1) (hi : 0 ≤ i ∧ i < 302)
    (hok : ∀ (m' : PM) (st : List (List Cd)), SrT st → st.length = cntA S w → st.length ≤ 60 → (∀ t, t ∈ st ↔ ((w, [t]) : Atm) ∈ S) → StR m' i st → (∀ c j, ¬ WGa i c j → m' c j = m0 c j) → Q (.inl (some (.int (zI 1)))) (sA μ m' l))
    (hX : ∀ m' : PM, 60 < cntA S w → (∀ c j, ¬ WGa i c j → m' c j = m0 c j) → Q (.inl (some (.int (zI 0)))) (sA μ m' l)) :
    Wp (d + 2) 235 (0, [some (.ref 125), some (.int (zI x)), some (.int (zI i)), none], [], sA μ m0 l) Q := by
  have h9 := (RV_n hw0.1).2.2.2.1
  have x1 := hx.1
  have x2 := hx.2.1
  have hS1000 := hw0.2.2.2.2.1.2.1
  have hT0 := hw0.2.1.2.1
  have loop : ∀ (f k : Nat) (x3 : Int) (m : PM) (L : List (List Cd)), k + f = S.length → CuA S w x3 k → (∀ c j, ¬ WGa i c j → m c j = m0 c j) → m 172 i = (L.length : Int) → SrT L → L.length = cntA (S.take k) w → L.length ≤ 60 → (∀ t, t ∈ L ↔ ((w, [t]) : Atm) ∈ S.take k) → (∀ q : Nat, q < L.length → TxR m 171 (2940 * i + 49 * (q : Int)) (L.getD q []) ∧ GdT m (L.getD q []) ∧ tlC (L.getD q []) ≤ 48) → Wp (d + 2) 235 (14, [some (.ref 125), some (.int (zI x)), some (.int (zI i)), some (.int (zI x3))], [], sA μ m l) Q := by
    intro f
    induction f using Nat.strongRecOn with
    | _ f ih =>
      intro k x3 m L hk hcu fr h172 hL hlen h60 hmem hs
      rcases hcu with ⟨e1, e2⟩ | ⟨e1, e2, e3⟩
      · rw [e2, List.take_length] at hlen hmem
        exact R235_14 H ⟨by rw [e1]; exact ⟨by decide, by decide⟩, fun _ => hok m L hL hlen h60 hmem ⟨h172, h60, SrT_nd hL, hs⟩ fr, fun z => by omega⟩
      · have hb : TbR m T := TbR_cg (fun c j z => fr c j (by omega)) (fun j => by rw [fr _ _ (by omega)]; exact hw0.2.1.2.2.1 j) (WkR_tb hw0)
        obtain ⟨a1, a2, a3⟩ := hw0.2.2.2.2.2.1 k e2
        have ek : m0 154 (k : Int) = x := (WkR_is hw0 hx e2).mpr e3
        rw [ek, hW1] at a2
        obtain ⟨t, et⟩ : ∃ t, S.getD k ([], []) = (w, [t]) := by
          cases hsk : S.getD k ([], []) with
          | mk b ps =>
            rw [hsk] at a2 e3
            have e3 : b = w := e3
            have a2 : ps.length = 1 := a2
            cases ps with
            | nil => exact absurd a2 (by decide)
            | cons t ps =>
              cases ps with
              | nil => exact ⟨t, Prod.ext e3 rfl⟩
              | cons t2 ps => rw [List.length_cons, List.length_cons] at a2; omega
        rw [et] at a3
        obtain ⟨u, u1, u2, u3⟩ := a3 0 Nat.zero_lt_one
        have u3 : Tg m0 u t := u3
        have u1 : m0 155 (4 * (k : Int) + ((0 : Nat) : Int)) = (u : Int) := u1
        rw [show 4 * (k : Int) + ((0 : Nat) : Int) = 4 * (k : Int) by omega] at u1
        have hSk : ((w, [t]) : Atm) ∈ S := by rw [← et]; exact gA_mem e2
        have ht48 := h48 _ hSk t (List.mem_singleton.mpr rfl)
        have tk1 : S.take (k + 1) = S.take k ++ [(w, [t])] := by rw [take_a e2, et]
        have c1 : cntA (S.take (k + 1)) w = cntA (S.take k) w + 1 := by rw [tk1, cnt_app, if_pos rfl]
        have hnot : ¬ t ∈ L := fun z => by
          have := (hmem t).mp z
          rw [← et] at this
          exact tk_no hnd e2 this
        have e155 : m 155 (4 * (k : Int)) = (u : Int) := by rw [fr _ _ (by omega)]; exact u1
        have u4 : Tg m u t := TgR_cg (T := T) (fr _ _ (by omega)) (fun i => fr _ _ (by omega)) (fun i => fr _ _ (by omega)) (fun t ht => ⟨fr _ _ (by omega), fr _ _ (by omega), fun i _ => fr _ _ (by omega)⟩) _ u _ u2 u3
        rw [e1]
        refine R235_14 H ⟨⟨by omega, by omega⟩, fun z => by omega, fun _ => ⟨hi, by rw [h172]; exact ⟨by omega, by omega⟩, fun z => ⟨⟨by omega, by omega⟩, ?_⟩, fun z => ?_⟩⟩
        rotate_left
        · have z' : m 172 i = 60 := Classical.byContradiction z
          refine hX m ?_ fr
          have := cnt_tk (S := S) (w := w) (k := k + 1)
          omega
        rw [e155]
        refine ⟨_, _, c_writeA (d := d + 1) (l := l) H hb u2 u4 ht48.1 ht48.2, fun μ' hp => ?_, fun _ _ z => z.elim⟩
        obtain ⟨m1, rfl, hr1, f1⟩ := hp
        have gt : GdT m1 t := GdT_cg (f1 _ _ (by omega)) (fun i => f1 _ _ (by omega)) (fun i => f1 _ _ (by omega)) (GdT_Tg u4 ht48.2)
        have g48 := GdT_48 gt ht48.1
        have e172 : m1 172 i = (L.length : Int) := by rw [f1 _ _ (by omega)]; exact h172
        have hs1 : ∀ q : Nat, q < L.length → TxR m1 171 (2940 * i + 49 * (q : Int)) (L.getD q []) ∧ GdT m1 (L.getD q []) ∧ (tx (L.getD q [])).length ≤ 48 := fun q hq => by
          obtain ⟨b1, b2, b3⟩ := hs q hq
          have g2 : GdT m1 (L.getD q []) := GdT_cg (f1 _ _ (by omega)) (fun i => f1 _ _ (by omega)) (fun i => f1 _ _ (by omega)) b2
          exact ⟨fun j hj => by rw [f1 _ _ (by omega)]; exact b1 j hj, g2, (GdT_48 g2 b3).1⟩
        refine R235_43 H ⟨hi, fun y μ' => Wp (d + 2) 235 (62, [some (.ref 125), some (.int (zI x)), some (.int (zI i)), some (.int (zI (k : Int)))], [.int y], μ') Q, noX, ?_, fun _ _ z => z, fun _ _ z => z.elim⟩
        rw [e172]
        refine c_insert (d := d) (Q := pI _ noX) (Or.inl rfl) (rK_171 H) (by decide) H gt g48.1 hr1 hL (by omega) hs1 hnot ⟨by omega, by omega⟩ (fun m2 k2 hk2 hsr htx f2 => ?_)
        refine R235_62 H ⟨hi, ⟨by omega, by omega⟩, ?_⟩
        rintro m3 e3'
        have e172' : m2 172 i = (L.length : Int) := by rw [f2 _ _ (by omega)]; exact e172
        rw [e172'] at e3'
        have f3 : ∀ c j, ¬ (c = 172 ∧ j = i) → m3 c j = m2 c j := fun c j z => by rw [e3']; exact up_o z
        have fr3 : ∀ c j, ¬ WGa i c j → m3 c j = m0 c j := fun c j z => by rw [f3 c j (by omega), f2 c j (by omega), f1 c j (by omega)]; exact fr c j z
        have e156 : m2 156 (k : Int) = m0 156 (k : Int) := by rw [f2 _ _ (by omega), f1 _ _ (by omega)]; exact fr _ _ (by omega)
        rw [e156]
        obtain ⟨k', cu', k1, k2', c2, mm⟩ := cu_next hw0 hx e2 e3
        refine ih (S.length - k') (by omega) k' _ m3 (insL k2 t L) (by omega) cu' fr3 (by rw [e3', up_s, insL_len hk2]; omega) hsr (by rw [insL_len hk2, c2, c1, hlen]) ?_ (fun t' => ?_) (fun q hq => ?_)
        · rw [insL_len hk2]
          have z' : ¬ L.length = 60 := fun e => z (by rw [h172, e]; rfl)
          omega
        · rw [insL_mem, mm [t'], tk1, List.mem_append, List.mem_singleton, hmem t']
          constructor
          · rintro (y | y)
            · exact Or.inr (by rw [y])
            · exact Or.inl y
          · rintro (y | y)
            · exact Or.inr y
            · exact Or.inl (List.cons.inj (congrArg Prod.snd y)).1
        · rw [insL_len hk2] at hq
          have hg : GdT m0 ((insL k2 t L).getD q []) ∧ tlC ((insL k2 t L).getD q []) ≤ 48 := by
            have hm : (insL k2 t L).getD q [] ∈ insL k2 t L := by
              rw [List.getD_eq_getElem?_getD, List.getElem?_eq_getElem (by rw [insL_len hk2]; exact hq)]
              exact List.getElem_mem _
            rcases insL_mem.mp hm with e | hm
            · rw [e]; exact ⟨GdT_Tg u3 ht48.2, ht48.1⟩
            · obtain ⟨q', hq', eq'⟩ := mem_gD2 hm
              rw [← eq']
              exact ⟨GdT_cg (fr _ _ (by omega)).symm (fun i => (fr _ _ (by omega)).symm) (fun i => (fr _ _ (by omega)).symm) (hs q' hq').2.1, (hs q' hq').2.2⟩
          refine ⟨fun j hj => ?_, GdT_cg (fr3 _ _ (by omega)) (fun i => fr3 _ _ (by omega)) (fun i => fr3 _ _ (by omega)) hg.1, hg.2⟩
          rw [f3 _ _ (by omega)]
          exact htx q hq j hj
  refine R235_0 H ⟨hi, ⟨by omega, by omega⟩, ?_⟩
  rintro m1 e1
  have f1 : ∀ c j, ¬ (c = 172 ∧ j = i) → m1 c j = m0 c j := fun c j z => by rw [e1]; exact up_o z
  obtain ⟨k, cu, c0, no⟩ := cu_first hw0 hx
  have hkS : k ≤ S.length := by
    rcases cu with ⟨_, e⟩ | ⟨_, e, _⟩
    · omega
    · omega
  exact loop (S.length - k) k _ m1 [] (by omega) cu (fun c j z => f1 c j (by omega)) (by rw [e1, up_s]; rfl) List.Pairwise.nil (by rw [c0]; rfl) (by decide) (fun t => ⟨fun z => absurd z List.not_mem_nil, fun z => absurd z (no [t])⟩) (fun q hq => absurd hq (Nat.not_lt_zero q))
end RGA
