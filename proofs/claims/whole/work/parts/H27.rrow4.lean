/-! ===== the reference: texts into the row, an atom that is given ===== -/
theorem tx_sg : ∀ (f : Nat) (cs : List Cd), wfS f cs → gnd cs → NeC cs → (∀ s, s ∈ tx cs → 32 ≤ s ∧ s ≤ 122) ∧ 1 ≤ (tx cs).length := by
  intro f
  induction f with
  | zero => intro cs h; exact absurd h (fun z => z)
  | succ f ih =>
    intro cs h hg hne
    cases cs with
    | nil => exact absurd h (fun z => z)
    | cons c rest =>
      obtain ⟨n, w⟩ := c
      have hn5 : n < 5 := hg (n, w) List.mem_cons_self
      obtain ⟨ps, h1, h2, h3⟩ := (wfS_n (by omega)).mp h
      have hw : 1 ≤ w.length ∧ ∀ s, s ∈ w → ¬ nmV s = 0 := hne (n, w) List.mem_cons_self hn5
      have hws : ∀ s, s ∈ w → 32 ≤ s ∧ s ≤ 122 := fun s hs => by have := nmV_r (hw.2 s hs); omega
      by_cases n0 : n = 0
      · have ep : ps = [] := List.eq_nil_of_length_eq_zero (by omega)
        have er : rest = [] := by rw [← h2, ep]; rfl
        rw [er, n0, tx_0]
        exact ⟨hws, hw.1⟩
      · have sub : ∀ p, p ∈ ps → ∀ c, c ∈ p → c ∈ (n, w) :: rest := fun p hp c hc => List.mem_cons_of_mem _ (by rw [← h2]; exact List.mem_flatten.mpr ⟨p, hp, hc⟩)
        have hgp : ∀ p, p ∈ ps → wfS f p ∧ gnd p := fun p hp => ⟨h3 p hp, fun c hc => hg c (sub p hp c hc)⟩
        have et : tx ((n, w) :: rest) = 40 :: (w ++ txP ps ++ [41]) := by rw [← h1, ← h2]; exact tx_n (by omega) hgp
        rw [et]
        refine ⟨fun s hs => ?_, by rw [List.length_cons]; omega⟩
        rcases List.mem_cons.mp hs with e | hs
        · rw [e]; decide
        · rcases List.mem_append.mp hs with hs | hs
          · rcases List.mem_append.mp hs with hs | hs
            · exact hws s hs
            · unfold txP at hs
              obtain ⟨q, q1, q2⟩ := List.mem_flatten.mp hs
              obtain ⟨p, p1, p2⟩ := List.mem_map.mp q1
              rw [← p2] at q2
              rcases List.mem_cons.mp q2 with e | q2
              · rw [e]; decide
              · exact (ih p (h3 p p1) (hgp p p1).2 (fun c hc => hne c (sub p p1 c hc))).1 s q2
          · rw [List.mem_singleton.mp hs]; decide
/-- a term without variables, of names that are there -/
def GdT (m : PM) (cs : List Cd) : Prop := (∃ f, wfS f cs) ∧ gnd cs ∧ NeC cs ∧ ∀ c, c ∈ cs → ∃ x, nX m x c.2
theorem GdT_cg {m m' : PM} {cs : List Cd} (h1 : m' 125 9 = m 125 9) (h2 : ∀ i, m' 129 i = m 129 i) (h3 : ∀ i, m' 130 i = m 130 i) (h : GdT m cs) : GdT m' cs := ⟨h.1, h.2.1, h.2.2.1, fun c hc => by obtain ⟨x, hx⟩ := h.2.2.2 c hc; exact ⟨x, nX_cg h1 h2 h3 hx⟩⟩
theorem TgR_nx {m : PM} : ∀ (f t : Nat) (cs : List Cd), TgR f m t cs → ∀ c, c ∈ cs → ∃ x, nX m x c.2 := by
  intro f
  induction f with
  | zero => intro t cs h; exact absurd h (fun z => z)
  | succ f ih =>
    intro t cs h c hc
    obtain ⟨w, ps, h1, h2, h3, h4, h5⟩ := h
    rw [h1] at hc
    rcases List.mem_cons.mp hc with e | hc
    · rw [e]; exact ⟨_, h3⟩
    · obtain ⟨p, p1, p2⟩ := List.mem_flatten.mp hc
      obtain ⟨k, hk, e⟩ := mem_gD2 p1
      obtain ⟨u, _, _, e3⟩ := h5 k hk
      rw [e] at e3
      exact ih u p e3 c p2
theorem GdT_Tg {m : PM} {t : Nat} {cs : List Cd} (h : Tg m t cs) (hn : NeC cs) : GdT m cs := ⟨⟨_, TgR_wf _ t cs h⟩, TgR_gnd _ t cs h, hn, TgR_nx _ t cs h⟩
theorem GdT_sg {m : PM} {cs : List Cd} (h : GdT m cs) : (∀ s, s ∈ tx cs → 32 ≤ s ∧ s ≤ 122) ∧ 1 ≤ (tx cs).length := by
  obtain ⟨⟨f, hf⟩, h2, h3, _⟩ := h
  exact tx_sg f cs hf h2 h3
theorem GdT_g {m : PM} {cs : List Cd} (h : GdT m cs) {i : Nat} (hi : i < (tx cs).length) : 32 ≤ (tx cs).getD i 0 ∧ (tx cs).getD i 0 ≤ 122 := by
  refine (GdT_sg h).1 _ ?_
  rw [List.getD_eq_getElem?_getD, List.getElem?_eq_getElem hi]
  exact List.getElem_mem hi
theorem gD_out {s : List Int} {i : Nat} (h : s.length ≤ i) : s.getD i 0 = 0 := by
  rw [List.getD_eq_getElem?_getD, List.getElem?_eq_none h]
  rfl
/-- a text of 48 signs in a row of bytes -/
def TxR (m : PM) (c : Nat) (p : Int) (cs : List Cd) : Prop := ∀ j : Nat, j < 49 → m c (p + j) = (tx cs).getD j 0
section RRD
variable {d : Nat} {μ : am_Mem} {l : PM} {Q : Option Value ⊕ Nat → am_Mem → Prop} {a n T : Nat} {W : Int → Nat} {rs : List Rul} {S : List Atm}
theorem c_rowFromBytes {m : PM} {p : Int} {cs : List Cd} (ha : a = 171 ∨ a = 174) (hk : am_kd μ a = (3, n)) (hn : n ≤ 887880) (H : RS μ) (hg : GdT m cs) (h48 : (tx cs).length ≤ 48) (hp : 0 ≤ p ∧ p + 49 ≤ (n : Int)) (ht : TxR m a p cs) : Wp d 214 (0, [some (.ref 125), some (.ref a), some (.int (zI p)), none], [], sA μ m l) (pV (fun μ' => ∃ m', μ' = sA μ m' l ∧ m' 125 80 = ((tx cs).length : Int) ∧ RwS (m' 176) 0 (tx cs) ∧ ∀ c j, ¬ (c = 176 ∨ (c = 125 ∧ j = 80)) → m' c j = m c j) noX) := by
  have fill : ∀ (f i : Nat) (m1 : PM), i + f = 49 → (tx cs).length ≤ i → m1 125 80 = ((tx cs).length : Int) → RwS (m1 176) 0 (tx cs) → (∀ c j, ¬ (c = 176 ∨ (c = 125 ∧ j = 80)) → m1 c j = m c j) → Wp d 214 (60, [some (.ref 125), some (.ref a), some (.int (zI p)), some (.int (zI (i : Int)))], [], sA μ m1 l) (pV (fun μ' => ∃ m', μ' = sA μ m' l ∧ m' 125 80 = ((tx cs).length : Int) ∧ RwS (m' 176) 0 (tx cs) ∧ ∀ c j, ¬ (c = 176 ∨ (c = 125 ∧ j = 80)) → m' c j = m c j) noX) := by
    intro f
    induction f with
    | zero =>
      intro i m1 hi hl e80 hr fr
      exact R214_60 ha hk hn H ⟨⟨by omega, by omega⟩, fun _ => ⟨m1, rfl, e80, hr, fr⟩, fun z => by omega⟩
    | succ f ih =>
      intro i m1 hi hl e80 hr fr
      refine R214_60 ha hk hn H ⟨⟨by omega, by omega⟩, fun z => by omega, fun _ => ⟨⟨by omega, by omega⟩, ?_⟩⟩
      rintro m2 e2
      have go := ih (i + 1) m2 (by omega) (by omega) (by rw [e2, up_c (by decide)]; exact e80) (fun j hj => by rw [e2, up_i (by omega)]; exact hr j hj) (fun c j z => by rw [e2, up_c (by omega)]; exact fr c j z)
      rw [show ((i + 1 : Nat) : Int) = (i : Int) + 1 by omega] at go
      exact go
  have copy : ∀ (f i : Nat) (m1 : PM), i + f = (tx cs).length → m1 125 80 = (i : Int) → (∀ j : Nat, j < i → m1 176 (0 + (j : Int)) = (tx cs).getD j 0) → (∀ c j, ¬ (c = 176 ∨ (c = 125 ∧ j = 80)) → m1 c j = m c j) → Wp d 214 (5, [some (.ref 125), some (.ref a), some (.int (zI p)), none], [], sA μ m1 l) (pV (fun μ' => ∃ m', μ' = sA μ m' l ∧ m' 125 80 = ((tx cs).length : Int) ∧ RwS (m' 176) 0 (tx cs) ∧ ∀ c j, ¬ (c = 176 ∨ (c = 125 ∧ j = 80)) → m' c j = m c j) noX) := by
    intro f
    induction f with
    | zero =>
      intro i m1 hi e80 hr fr
      have ei : i = (tx cs).length := by omega
      have e : m1 a (p + (i : Int)) = 0 := by
        rw [fr a _ (by omega), ht i (by omega)]
        exact gD_out (by omega)
      have go : Wp d 214 (60, [some (.ref 125), some (.ref a), some (.int (zI p)), some (.int (zI (m1 125 80)))], [], sA μ m1 l) (pV (fun μ' => ∃ m', μ' = sA μ m' l ∧ m' 125 80 = ((tx cs).length : Int) ∧ RwS (m' 176) 0 (tx cs) ∧ ∀ c j, ¬ (c = 176 ∨ (c = 125 ∧ j = 80)) → m' c j = m c j) noX) := by
        rw [e80]
        exact fill (49 - i) i m1 (by omega) (by omega) (by rw [e80, ei]) (fun j hj => hr j (by omega)) fr
      refine R214_5 ha hk hn H ⟨by rw [e80]; exact ⟨by omega, by omega⟩, fun _ => go, fun _ => ⟨by rw [e80]; exact ⟨by omega, by omega⟩, by rw [e80, e]; exact ⟨by decide, by decide⟩, fun _ => go, fun z => absurd (by rw [e80, e]; decide) z⟩⟩
    | succ f ih =>
      intro i m1 hi e80 hr fr
      have hg1 := GdT_g hg (i := i) (by omega)
      have e : m1 a (p + (i : Int)) = (tx cs).getD i 0 := by rw [fr a _ (by omega)]; exact ht i (by omega)
      refine R214_5 ha hk hn H ⟨by rw [e80]; exact ⟨by omega, by omega⟩, fun z => by rw [e80] at z; omega, fun _ => ⟨by rw [e80]; exact ⟨by omega, by omega⟩, by rw [e80, e]; exact ⟨by omega, by omega⟩, fun z => by rw [e80, e] at z; omega, fun _ => ⟨by rw [e80]; exact ⟨by omega, by omega⟩, ?_⟩⟩⟩
      rw [e80, e]
      rintro m2 e2
      exact ih (i + 1) m2 (by omega) (by rw [e2, up_s]; omega) (fun j hj => by
        by_cases y : j = i
        · rw [y, e2, up_c (by decide), show (0 : Int) + (i : Int) = (i : Int) by omega, up_s]
        · rw [e2, up_c (by decide), up_i (by omega)]
          exact hr j (by omega)) (fun c j z => by rw [e2, up_o (by omega), up_c (by omega)]; exact fr c j z)
  refine R214_0 ha hk hn H ?_
  rintro m1 e1
  exact copy (tx cs).length 0 m1 (by omega) (by rw [e1, up_s]; rfl) (fun j hj => absurd hj (Nat.not_lt_zero j)) (fun c j z => by rw [e1, up_o (by omega)])
/-- the text of a role in its row -/
def RlX (m : PM) (r : Nat) (cs : List Cd) : Prop := ∀ i : Nat, i < 3000 → m 170 (3000 * (r : Int) + i) = (tx cs).getD i 0
theorem c_roleTerm {m : PM} {r : Nat} {cs : List Cd} (H : RS μ) (hb : TbR m T) (hr : r < 4) (hg : GdT m cs) (hl : (tx cs).length ≤ 2999) (ht : RlX m r cs) (hc : cs.length ≤ 1100) (hT : T + cs.length ≤ 130000)
    (hk : ∀ (m' : PM) (T' u : Nat), T ≤ T' → T' ≤ T + cs.length → TbR m' T' → u < T' → Tg m' u cs → (∀ c j, ¬ (WMd T c j ∨ c = 166 ∨ c = 167 ∨ c = 176 ∨ (c = 125 ∧ j = 80)) → m' c j = m c j) → Q (.inl (some (.int (zI (u : Int))))) (sA μ m' l)) :
    Wp (d + 3) 220 (0, [some (.ref 125), some (.int (zI (r : Int)))], [], sA μ m l) Q := by
  have copy : ∀ (f i : Nat) (m1 : PM), i + f = (tx cs).length → m1 125 80 = (i : Int) → (∀ j : Nat, j < i → m1 176 (0 + (j : Int)) = (tx cs).getD j 0) → (∀ c j, ¬ (c = 176 ∨ (c = 125 ∧ j = 80)) → m1 c j = m c j) → Wp (d + 3) 220 (5, [some (.ref 125), some (.int (zI (r : Int)))], [], sA μ m1 l) Q := by
    intro f
    induction f with
    | zero =>
      intro i m1 hi e80 hrw fr
      have ei : i = (tx cs).length := by omega
      have e : m1 170 (3000 * (r : Int) + (i : Int)) = 0 := by
        rw [fr _ _ (by omega), ht i (by omega)]
        exact gD_out (by omega)
      obtain ⟨⟨f', hf'⟩, g2, g3, g4⟩ := GdT_cg (fr _ _ (by omega)) (fun i => fr _ _ (by omega)) (fun i => fr _ _ (by omega)) hg
      refine R220_5 H ⟨by rw [e80]; exact ⟨by omega, by omega⟩, by rw [e80, e]; exact ⟨by decide, by decide⟩, fun _ => ⟨fun y μ' => Wp (d + 3) 220 (64, [some (.ref 125), some (.int (zI (r : Int)))], [.int y], μ') Q, noX, ?_, fun _ _ z => z, fun _ _ z => z.elim⟩, fun z => absurd (by rw [e80, e]; decide) z⟩
      refine c_readRow (d := d) (Q := pI _ noX) (T := T) H (TbR_cg (fun c j z => fr c j (by omega)) (fun i => by rw [fr _ _ (by omega)]; exact hb.1.2.2.1 i) hb) hf' g2 g3 g4 (by rw [e80, ei]) (by omega) (fun j hj => hrw j (by omega)) hc hT (fun m' T' u t1 t2 b' u1 u2 fr' => ?_)
      exact R220_64 H (hk m' T' u t1 t2 b' u1 u2 (fun c j z => by rw [fr' c j (by omega)]; exact fr c j (by omega)))
    | succ f ih =>
      intro i m1 hi e80 hrw fr
      have hg1 := GdT_g hg (i := i) (by omega)
      have e : m1 170 (3000 * (r : Int) + (i : Int)) = (tx cs).getD i 0 := by rw [fr _ _ (by omega)]; exact ht i (by omega)
      refine R220_5 H ⟨by rw [e80]; exact ⟨by omega, by omega⟩, by rw [e80, e]; exact ⟨by omega, by omega⟩, fun z => by rw [e80, e] at z; omega, fun _ => ⟨by rw [e80]; exact ⟨by omega, by omega⟩, ?_⟩⟩
      rw [e80, e]
      rintro m2 e2
      exact ih (i + 1) m2 (by omega) (by rw [e2, up_s]; omega) (fun j hj => by
        by_cases y : j = i
        · rw [y, e2, up_c (by decide), show (0 : Int) + (i : Int) = (i : Int) by omega, up_s]
        · rw [e2, up_c (by decide), up_i (by omega)]
          exact hrw j (by omega)) (fun c j z => by rw [e2, up_o (by omega), up_c (by omega)]; exact fr c j z)
  refine R220_0 H ?_
  rintro m1 e1
  exact copy (tx cs).length 0 m1 (by omega) (by rw [e1, up_s]; rfl) (fun j hj => absurd hj (Nat.not_lt_zero j)) (fun c j z => by rw [e1, up_o (by omega)])
/-- a new atom that is not too long -/
theorem c_holdS {m : PM} {x : Int} {w : List Int} {ps : List (List Cd)} (H : RS μ) (hw : WkR W rs m T S) (h56 : m 125 56 = 0) (hx : nX m x w) (hW : W x = ps.length) (h4 : ps.length ≤ 4) (row : ∀ k : Nat, k < ps.length → ∃ u : Nat, m 168 k = (u : Int) ∧ u < T ∧ Tg m u (ps.getD k [])) (hlen : ∀ p, p ∈ ps → tlC p ≤ 48) (hno : ¬ (w, ps) ∈ S) (h1000 : S.length < 1000)
    (hk : ∀ m' : PM, WkR W rs m' T (S ++ [(w, ps)]) → m' 125 56 = 0 → (∀ c j, ¬ WHd c j → m' c j = m c j) → Q (.inl (some (.int (zI 1)))) (sA μ m' l)) :
    Wp (d + 2) 217 (0, [some (.ref 125), some (.int (zI x)), some (.int (zI (ps.length : Int))), none, none], [], sA μ m l) Q := by
  have h9 := (RV_n hw.1).2.2.2.1
  have hTn := hw.2.1.2.1
  have x1 := hx.1
  have x2 := hx.2.1
  have gpm : ∀ k, k < ps.length → ps.getD k [] ∈ ps := fun k hk => by rw [List.getD_eq_getElem?_getD, List.getElem?_eq_getElem hk]; exact List.getElem_mem hk
  have hl152 : ∀ k : Nat, k < ps.length → m 152 (m 168 k) = tlC (ps.getD k []) := fun k hk' => by
    obtain ⟨u, u1, u2, u3⟩ := row k hk'
    rw [u1]
    exact Tg_len hw.1.2.1 hw.2.1 hw.2.2.2.1 _ u _ u2 u3
  refine c_hold (d := d) (W := W) (F := S.length) H hw.2.2.2.2.1 ⟨x1, x2⟩ h9 h4 hW (fun k hk' => ?_) (fun k hk' => ?_) (Or.inl h56) (fun i hi hA => ?_) (fun hF _ => by omega) (fun _ _ m3 n1 n2 n3 n4 n5 n6 => ?_)
  · obtain ⟨u, u1, u2, _⟩ := row k hk'
    rw [u1]
    exact ⟨by omega, by omega⟩
  · rw [hl152 k hk']
    have a1 := hlen _ (gpm k hk')
    have a2 := tl_0 (ps.getD k [])
    exact ⟨by omega, by omega⟩
  · exact absurd (by rw [← (isA_S hw hx hW row hi).mp hA]; exact gA_mem hi) hno
  · have f32 : ∀ c i, ¬ WHd c i → m3 c i = m c i := n6
    have tg3 : ∀ (u : Nat) (q : List Cd), Tg m u q → Tg m3 u q := fun u q h => TgR_cg (T := u + 1) (f32 _ _ (by omega)) (fun i => f32 _ _ (by omega)) (fun i => f32 _ _ (by omega)) (fun t _ => ⟨f32 _ _ (by omega), f32 _ _ (by omega), fun k _ => f32 _ _ (by omega)⟩) _ u q (by omega) h
    have nx3 : ∀ {x : Int} {u : List Int}, nX m x u → nX m3 x u := fun {x u} h => nX_cg (f32 _ _ (by omega)) (fun i => f32 _ _ (by omega)) (fun i => f32 _ _ (by omega)) h
    refine hk m3 ?_ ?_ f32
    · obtain ⟨q1, q2, q3, q4, q5, q6, q7⟩ := hw
      have hlen1 : (S ++ [(w, ps)]).length = S.length + 1 := by rw [List.length_append, List.length_singleton]
      refine ⟨RV_cg2 (fun c j z => f32 c j (by omega)) q1, TtI_cg (f32 _ _ (by omega)) (fun t _ => f32 _ _ (by omega)) (fun t _ => f32 _ _ (by omega)) (fun i _ _ => f32 _ _ (by omega)) (fun i => by rw [f32 _ _ (by omega)]; exact q2.2.2.1 i) (fun i _ => f32 _ _ (by omega)) q2, TtU_cg q2 (fun t _ => f32 _ _ (by omega)) (fun t _ => f32 _ _ (by omega)) (fun i _ _ => f32 _ _ (by omega)) q3, TtL_cg q2 (f32 _ _ (by omega)) (fun i => f32 _ _ (by omega)) (fun t _ => f32 _ _ (by omega)) (fun t _ => f32 _ _ (by omega)) (fun i _ _ => f32 _ _ (by omega)) (fun t _ => f32 _ _ (by omega)) q4, by rw [hlen1]; exact n1, fun i hi => ?_, fun i => by rw [f32 _ _ (by omega)]; exact q7 i⟩
      rw [hlen1] at hi
      by_cases e : i = S.length
      · rw [e, gA_r, n2.1]
        refine ⟨nx3 hx, hW.symm, fun k hk' => ?_⟩
        have hk' : k < ps.length := hk'
        obtain ⟨u, u1, u2, u3⟩ := row k hk'
        refine ⟨u, ?_, u2, tg3 u _ u3⟩
        have z := n2.2
        rw [sl_len] at z
        rw [(sl_eq.mp z).2 k (by omega), ← u1]
        congr 1
        omega
      · rw [gA_l (by omega), n3 i (by omega)]
        obtain ⟨b1, b2, b3⟩ := q6 i (by omega)
        refine ⟨nx3 b1, b2, fun k hk' => ?_⟩
        obtain ⟨u, u1, u2, u3⟩ := b3 k hk'
        have hw4 := (q5.2.2.1 i (by omega)).2.1
        exact ⟨u, by rw [n4 _ (by omega)]; exact u1, u2, tg3 u _ u3⟩
    · rw [n5]
      refine bP_0 ?_
      rintro (y | ⟨k, k1, k2⟩)
      · omega
      · rw [hl152 k k1] at k2
        have := hlen _ (gpm k k1)
        omega
end RRD
