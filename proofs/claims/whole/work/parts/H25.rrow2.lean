/-! ===== the reference: readRow ===== -/
theorem nmV_r {s : Int} (h : ¬ nmV s = 0) : 48 ≤ s ∧ s ≤ 122 := by
  unfold nmV at h
  by_cases h1 : 97 ≤ s ∧ s ≤ 122
  · omega
  · rw [if_neg h1] at h
    by_cases h2 : 48 ≤ s ∧ s ≤ 57
    · omega
    · rw [if_neg h2] at h
      by_cases h3 : s = 95
      · omega
      · rw [if_neg h3] at h
        exact absurd rfl h
theorem nmV_n {s : Int} (h : s < 48) : nmV s = 0 := Classical.byContradiction fun z => by have := nmV_r z; omega
/-- a text in the row, from a place on -/
def RwS (row : Int → Int) (q : Int) (s : List Int) : Prop := ∀ i : Nat, i < s.length → row (q + i) = s.getD i 0
theorem RwS_app {row : Int → Int} {q : Int} {a b : List Int} (h : RwS row q (a ++ b)) : RwS row q a ∧ RwS row (q + (a.length : Int)) b := by
  constructor
  · intro i hi
    rw [h i (by rw [List.length_append]; omega), List.getD_eq_getElem?_getD, List.getD_eq_getElem?_getD, List.getElem?_append_left hi]
  · intro i hi
    have z := h (a.length + i) (by rw [List.length_append]; omega)
    rw [show q + (a.length : Int) + (i : Int) = q + ((a.length + i : Nat) : Int) by omega, z, List.getD_eq_getElem?_getD, List.getD_eq_getElem?_getD, List.getElem?_append_right (by omega), Nat.add_sub_cancel_left]
theorem RwS_c {row : Int → Int} {q x : Int} {s : List Int} (h : RwS row q (x :: s)) : row q = x ∧ RwS row (q + 1) s := by
  have z := RwS_app (show RwS row q ([x] ++ s) from h)
  have y := z.1 0 (Nat.zero_lt_one)
  rw [show q + ((0 : Nat) : Int) = q by omega] at y
  exact ⟨y, z.2⟩
theorem txP_app (a b : List (List Cd)) : txP (a ++ b) = txP a ++ txP b := by
  unfold txP
  rw [List.map_append, List.flatten_append]
theorem txP_c (p : List Cd) (ps : List (List Cd)) : txP (p :: ps) = 32 :: (tx p ++ txP ps) := by
  unfold txP
  rw [List.map_cons, List.flatten_cons]
  rfl
theorem drop_c {ps : List (List Cd)} {j : Nat} (h : j < ps.length) : ps.drop j = ps.getD j [] :: ps.drop (j + 1) := by
  rw [List.drop_eq_getElem_cons h, List.getD_eq_getElem?_getD, List.getElem?_eq_getElem h]
  rfl
/-- what reading a row may write -/
abbrev WRr (T h o : Nat) (c : Nat) (j : Int) : Prop := WMd T c j ∨ (c = 166 ∧ (h : Int) ≤ j) ∨ (c = 167 ∧ (o : Int) ≤ j)
section RRB
variable {d : Nat} {μ : am_Mem} {l : PM} {Q : Option Value ⊕ Nat → am_Mem → Prop}
/-- a name with its parts on the pile -/
theorem rr_node {m : PM} {T h o n op : Nat} {q : Int} {w : List Int} {ps : List (List Cd)} {x4 : Int} {o6 o7 o8 : Option Value} (H : RS μ) (hb : TbR m T) (hT : T < 130000) (hn : ps.length = n) (hn4 : n ≤ 4) (hw : 1 ≤ w.length ∧ ∀ s, s ∈ w → ¬ nmV s = 0) (hx : ∃ x, nX m x w) (hq : 0 ≤ q ∧ q + (w.length : Int) ≤ 3000) (hr : RwS (m 176) q w) (hh : h + n ≤ 1100) (ho : o + op ≤ 1100) (hh1 : h < 1100)
    (hop : (op = 0 ∧ n = 0 ∧ (q = 0 ∨ m 176 (q - 1) = 32)) ∨ (op = 1 ∧ 1 ≤ q ∧ m 176 (q - 1) = 40 ∧ m 167 (o : Int) = (h : Int)))
    (hps : ∀ k : Nat, k < n → ∃ u : Nat, m 166 ((h : Int) + n - 1 - k) = (u : Int) ∧ u < T ∧ Tg m u (ps.getD k []))
    (hk : ∀ (m' : PM) (T' u : Nat) (o4 o5 o6 o7 o8 : Option Value), T ≤ T' → T' ≤ T + 1 → TbR m' T' → u < T' → Tg m' u ((ps.length, w) :: ps.flatten) → m' 166 (h : Int) = (u : Int) → (∀ c j, ¬ (WMd T c j ∨ (c = 166 ∧ j = (h : Int))) → m' c j = m c j) → Wp (d + 2) 215 (9, [some (.ref 125), some (.int (zI ((h : Int) + 1))), some (.int (zI (o : Int))), some (.int (zI (q - (op : Int)))), o4, o5, o6, o7, o8], [], sA μ m' l) Q) :
    Wp (d + 2) 215 (62, [some (.ref 125), some (.int (zI ((h : Int) + (n : Int)))), some (.int (zI ((o : Int) + (op : Int)))), some (.int (zI (q + (w.length : Int)))), some (.int (zI x4)), some (.int (zI (q + (w.length : Int)))), o6, o7, o8], [], sA μ m l) Q := by
  have hws : ∀ i : Nat, i < w.length → ¬ nmV (m 176 (q + i)) = 0 := fun i hi => by
    rw [hr i hi]
    refine hw.2 _ ?_
    rw [List.getD_eq_getElem?_getD, List.getElem?_eq_getElem hi]
    exact List.getElem_mem hi
  have hop1 : op = 0 ∨ op = 1 := by
    rcases hop with z | z
    · exact Or.inl z.1
    · exact Or.inr z.1
  have h42 : m 125 42 = (T : Int) := hb.1.1
  obtain ⟨x, hx⟩ := hx
  have e166 : ∀ (j : Nat), j < n → iR (m 166 ((h : Int) + n - 1 - j)) := fun j hj => by
    obtain ⟨u, e, e2, _⟩ := hps j hj
    rw [e]
    exact ⟨by omega, by omega⟩
  /- the parts are copied -/
  have copy : ∀ (f k : Nat) (mk : PM), k + f = n → (∀ i : Nat, i < k → mk 151 (4 * (T : Int) + i) = m 166 ((h : Int) + n - 1 - i)) → (∀ c j, ¬ (c = 151 ∧ 4 * (T : Int) ≤ j) → mk c j = m c j) → (∀ i, iR (mk 151 i)) → Wp (d + 2) 215 (134, [some (.ref 125), some (.int (zI ((h : Int) + (n : Int)))), some (.int (zI ((o : Int) + (op : Int)))), some (.int (zI q)), some (.int (zI x4)), some (.int (zI (q + (w.length : Int)))), some (.int (zI (op : Int))), some (.int (zI (n : Int))), some (.int (zI (k : Int)))], [], sA μ mk l) Q := by
    intro f
    induction f with
    | zero =>
      intro k mk hkn g1 fr rk
      have bk : TbR mk T := TbR_cg (fun c j z => fr c j (by omega)) rk hb
      have e9 : mk 125 9 = m 125 9 := fr _ _ (by omega)
      have hxk : nX mk x w := nX_cg e9 (fun i => fr _ _ (by omega)) (fun i => fr _ _ (by omega)) hx
      have hwR : ∀ j : Nat, j < w.length → iR (w.getD j 0) := fun j hj => by
        have z := nmV_r (hws j hj)
        rw [hr j hj] at z
        exact ⟨by omega, by omega⟩
      refine R215_134 H ⟨⟨by omega, by omega⟩, ⟨by omega, by omega⟩, fun _ => ⟨_, _, c_nameInRow (d := d + 1) H bk.2.2.2.1 bk.2.2.2.2.1 bk.2.2.2.2.2 hxk ⟨hq.1, by omega, hq.2⟩ (by omega) (fun j hj => by rw [fr 176 _ (by omega)]; exact hr j hj) hwR, fun y μ' hp => ?_, fun _ _ z => z.elim⟩, fun z => by omega⟩
      obtain ⟨rfl, rfl⟩ := hp
      rw [show (h : Int) + (n : Int) - (n : Int) = (h : Int) by omega]
      refine R215_190 H ⟨fun y μ' => Wp (d + 2) 215 (196, [some (.ref 125), some (.int (zI (h : Int))), some (.int (zI ((o : Int) + (op : Int)))), some (.int (zI q)), some (.int (zI x4)), some (.int (zI (q + (w.length : Int)))), some (.int (zI (op : Int))), some (.int (zI (n : Int))), some (.int (zI (k : Int)))], [.int y, .int (zI (h : Int)), .ref 166], μ') Q, noX, ?_, fun _ _ z => z, fun _ _ z => z.elim⟩
      have go := c_tput (d := d) (l := l) (Q := pI (fun y μ' => Wp (d + 2) 215 (196, [some (.ref 125), some (.int (zI (h : Int))), some (.int (zI ((o : Int) + (op : Int)))), some (.int (zI q)), some (.int (zI x4)), some (.int (zI (q + (w.length : Int)))), some (.int (zI (op : Int))), some (.int (zI (n : Int))), some (.int (zI (k : Int)))], [.int y, .int (zI (h : Int)), .ref 166], μ') Q) noX) H bk hT hxk (by omega : ps.length ≤ 4) (fun i hi => by
        obtain ⟨u, u1, u2, u3⟩ := hps i (by omega)
        refine ⟨u, by rw [g1 i (by omega)]; exact u1, u2, ?_⟩
        exact TgR_cg (T := T) e9 (fun i => fr _ _ (by omega)) (fun i => fr _ _ (by omega)) (fun t ht => ⟨fr _ _ (by omega), fr _ _ (by omega), fun i _ => fr _ _ (by omega)⟩) _ u _ u2 u3) (fun m' T' u t1 t2 b' u1 u2 fr' => by
        show Wp (d + 2) 215 _ Q
        refine R215_196 H ⟨⟨by omega, by omega⟩, by rcases hop1 with e | e <;> (rw [e]; exact ⟨by decide, by decide⟩), ?_⟩
        rintro m1 e1 v2 e2 v3 e3
        have f1 : ∀ c j, ¬ (c = 166 ∧ j = (h : Int)) → m1 c j = m' c j := fun c j z => by rw [e1]; exact up_o z
        have ev2 : v2 = (o : Int) := by
          rcases hop1 with e | e
          · rw [e2, if_pos (by omega)]; omega
          · rw [e2, if_neg (by omega)]; omega
        have ev3 : v3 = q - (op : Int) := by
          rcases hop1 with e | e
          · rw [e3, if_pos (by omega)]; omega
          · rw [e3, if_neg (by omega)]; omega
        rw [ev2, ev3]
        refine hk m1 T' u _ _ _ _ _ t1 t2 (TbR_cg (fun c j z => f1 c j (by omega)) (fun i => by rw [f1 _ _ (by omega)]; exact b'.1.2.2.1 i) b') u1 ?_ (by rw [e1, up_s]) (fun c j z => by rw [f1 c j (by omega), fr' c j (by omega)]; exact fr c j (by omega))
        exact TgR_cg (T := T') (f1 _ _ (by omega)) (fun i => f1 _ _ (by omega)) (fun i => f1 _ _ (by omega)) (fun t ht => ⟨f1 _ _ (by omega), f1 _ _ (by omega), fun i _ => f1 _ _ (by omega)⟩) _ u _ u1 u2)
      rw [hn] at go
      exact go
    | succ f ih =>
      intro k mk hkn g1 fr rk
      have e42 : mk 125 42 = (T : Int) := by rw [fr _ _ (by omega)]; exact h42
      refine R215_134 H ⟨⟨by omega, by omega⟩, ⟨by omega, by omega⟩, fun z => by omega, fun _ => ⟨⟨by omega, by omega⟩, by rw [e42]; exact ⟨by omega, by omega⟩, ?_⟩⟩
      rw [e42]
      rintro m1 e1
      have ev : mk 166 ((h : Int) + (n : Int) - 1 - (k : Int)) = m 166 ((h : Int) + n - 1 - k) := fr _ _ (by omega)
      rw [ev] at e1
      have go := ih (k + 1) m1 (by omega) (fun i hi => by
        by_cases y : i = k
        · rw [y, e1, up_s]
        · rw [e1, up_i (by omega)]
          exact g1 i (by omega)) (fun c j z => by rw [e1, up_o (by omega)]; exact fr c j z) (fun i => by
        rw [e1]
        by_cases y : i = 4 * (T : Int) + (k : Int)
        · rw [y, up_s]
          exact e166 k (by omega)
        · rw [up_i y]
          exact rk i)
      rw [show ((k + 1 : Nat) : Int) = (k : Int) + 1 by omega] at go
      exact go
  have at86 : Wp (d + 2) 215 (86, [some (.ref 125), some (.int (zI ((h : Int) + (n : Int)))), some (.int (zI ((o : Int) + (op : Int)))), some (.int (zI q)), some (.int (zI x4)), some (.int (zI (q + (w.length : Int)))), o6, o7, o8], [], sA μ m l) Q := by
    refine R215_86 H ⟨⟨by omega, by omega⟩, ⟨fun _ => trivial, fun z => ⟨⟨by omega, by omega⟩, ?_, trivial⟩⟩, ?_⟩
    · rcases hop with ⟨_, _, y | y⟩ | ⟨_, _, y, _⟩
      · omega
      · rw [y]; exact ⟨by decide, by decide⟩
      · rw [y]; exact ⟨by decide, by decide⟩
    rintro v1 e1
    have ev1 : v1 = (op : Int) := by
      rcases hop with ⟨y1, _, y | y⟩ | ⟨y1, y2, y, _⟩
      · rw [e1, if_pos (by omega), y1]; rfl
      · by_cases q0 : q ≤ 0
        · rw [e1, if_pos q0, y1]; rfl
        · rw [e1, if_neg q0, y, if_pos (by decide), y1]; rfl
      · rw [e1, if_neg (by omega), y, if_neg (fun z => z rfl), y1]; rfl
    refine ⟨⟨fun _ => trivial, fun z => ⟨⟨?_, by omega⟩, trivial⟩⟩, ?_⟩
    · rcases hop1 with y | y
      · rw [ev1, y] at z; exact absurd rfl z
      · omega
    rintro v2 e2
    have ev2 : v2 = (n : Int) := by
      rcases hop with ⟨y1, y2, _⟩ | ⟨y1, _, _, y4⟩
      · rw [e2, if_pos (by omega), y2]; rfl
      · rw [e2, if_neg (by omega), y1, show (o : Int) + ((1 : Nat) : Int) - 1 = (o : Int) by omega, y4]
        omega
    rw [ev1, ev2]
    exact copy n 0 m (by omega) (fun i hi => absurd hi (Nat.not_lt_zero i)) (fun _ _ _ => rfl) hb.1.2.2.1
  have nm : ∀ j : Nat, j ≤ w.length → Wp (d + 2) 215 (62, [some (.ref 125), some (.int (zI ((h : Int) + (n : Int)))), some (.int (zI ((o : Int) + (op : Int)))), some (.int (zI (q + (j : Int)))), some (.int (zI x4)), some (.int (zI (q + (w.length : Int)))), o6, o7, o8], [], sA μ m l) Q := by
    intro j
    induction j with
    | zero =>
      intro _
      rw [show q + ((0 : Nat) : Int) = q by omega]
      refine R215_62 H ⟨⟨by omega, by omega⟩, fun _ => at86, fun z => ⟨⟨by omega, by omega⟩, ?_, fun _ => at86, fun y => absurd ?_ y⟩⟩
      · rcases hop with ⟨_, _, y | y⟩ | ⟨_, _, y, _⟩
        · omega
        · rw [y]; exact ⟨by decide, by decide⟩
        · rw [y]; exact ⟨by decide, by decide⟩
      · rcases hop with ⟨_, _, y | y⟩ | ⟨_, _, y, _⟩
        · omega
        · rw [y]; exact nmV_n (by decide)
        · rw [y]; exact nmV_n (by decide)
    | succ j ih =>
      intro hj
      have hz := hws j (by omega)
      have hz2 := nmV_r hz
      have e : q + ((j + 1 : Nat) : Int) - 1 = q + (j : Int) := by omega
      refine R215_62 H ⟨⟨by omega, by omega⟩, fun z => by omega, fun _ => ⟨⟨by omega, by omega⟩, by rw [e]; exact ⟨by omega, by omega⟩, fun z => by rw [e] at z; exact absurd z hz, fun _ => ?_⟩⟩
      rw [e]
      exact ih (by omega)
  exact nm w.length (Nat.le_refl _)
end RRB
