/-! ===== the reference: texts against each other, a text among others ===== -/
/-- the row at hand is a term's text, with zeros behind it -/
def RwT (m : PM) (cs : List Cd) : Prop := ∀ j : Nat, j < 49 → m 176 (j : Int) = (tx cs).getD j 0
/-- a term with a new one put in -/
def insL (k : Nat) (t : List Cd) (L : List (List Cd)) : List (List Cd) := L.take k ++ t :: L.drop k
theorem insL_len {k : Nat} {t : List Cd} {L : List (List Cd)} (h : k ≤ L.length) : (insL k t L).length = L.length + 1 := by
  unfold insL
  rw [List.length_append, List.length_cons, List.length_take, List.length_drop]
  omega
theorem insL_lt {k : Nat} {t : List Cd} {L : List (List Cd)} (h : k ≤ L.length) {i : Nat} (hi : i < k) : (insL k t L).getD i [] = L.getD i [] := by
  unfold insL
  rw [List.getD_eq_getElem?_getD, List.getD_eq_getElem?_getD, List.getElem?_append_left (by rw [List.length_take]; omega), List.getElem?_take_of_lt hi]
theorem insL_eq {k : Nat} {t : List Cd} {L : List (List Cd)} (h : k ≤ L.length) : (insL k t L).getD k [] = t := by
  unfold insL
  have e : (L.take k).length = k := by rw [List.length_take]; omega
  rw [List.getD_eq_getElem?_getD, List.getElem?_append_right (by omega), e, Nat.sub_self]
  rfl
theorem insL_gt {k : Nat} {t : List Cd} {L : List (List Cd)} (h : k ≤ L.length) {i : Nat} (hi : k < i) : (insL k t L).getD i [] = L.getD (i - 1) [] := by
  unfold insL
  have e : (L.take k).length = k := by rw [List.length_take]; omega
  obtain ⟨j, rfl⟩ : ∃ j, i = k + 1 + j := ⟨i - (k + 1), by omega⟩
  rw [List.getD_eq_getElem?_getD, List.getD_eq_getElem?_getD, List.getElem?_append_right (by omega), e, show k + 1 + j - k = j + 1 by omega, List.getElem?_cons_succ, List.getElem?_drop]
  congr 2
  omega
theorem insL_mem {k : Nat} {t x : List Cd} {L : List (List Cd)} : x ∈ insL k t L ↔ x = t ∨ x ∈ L := by
  unfold insL
  have e : x ∈ L ↔ x ∈ L.take k ∨ x ∈ L.drop k := by rw [← List.mem_append, List.take_append_drop]
  rw [List.mem_append, List.mem_cons, e]
  constructor
  · rintro (a | a | a)
    · exact Or.inr (Or.inl a)
    · exact Or.inl a
    · exact Or.inr (Or.inr a)
  · rintro (a | a | a)
    · exact Or.inr (Or.inl a)
    · exact Or.inl a
    · exact Or.inr (Or.inr a)
theorem insL_srt {k : Nat} {t : List Cd} {L : List (List Cd)} (hL : SrT L) (h : k ≤ L.length) (h1 : ∀ i, i < k → ltT (tx (L.getD i [])) (tx t)) (h2 : k < L.length → ltT (tx t) (tx (L.getD k []))) : SrT (insL k t L) := by
  have hp : L.Pairwise (fun a b => ltT (tx a) (tx b)) := hL
  have hs : (L.take k ++ L.drop k).Pairwise (fun a b => ltT (tx a) (tx b)) := by rw [List.take_append_drop]; exact hp
  obtain ⟨a1, a2, a3⟩ := List.pairwise_append.mp hs
  have lo : ∀ x, x ∈ L.take k → ltT (tx x) (tx t) := fun x hx => by
    obtain ⟨i, hi, e⟩ := mem_gD2 hx
    rw [List.length_take] at hi
    rw [List.getD_eq_getElem?_getD, List.getElem?_take_of_lt (by omega), ← List.getD_eq_getElem?_getD] at e
    rw [← e]
    exact h1 i (by omega)
  have hi' : ∀ x, x ∈ L.drop k → ltT (tx t) (tx x) := fun x hx => by
    by_cases kl : k < L.length
    · have z := h2 kl
      rw [drop_c kl] at hx a2
      rcases List.mem_cons.mp hx with e | hx
      · rw [e]; exact z
      · exact ltT_tr z ((List.pairwise_cons.mp a2).1 x hx)
    · rw [List.drop_eq_nil_of_le (by omega)] at hx
      exact absurd hx List.not_mem_nil
  show (L.take k ++ t :: L.drop k).Pairwise (fun a b => ltT (tx a) (tx b))
  refine List.pairwise_append.mpr ⟨a1, List.pairwise_cons.mpr ⟨hi', a2⟩, fun x hx y hy => ?_⟩
  rcases List.mem_cons.mp hy with e | hy
  · rw [e]; exact lo x hx
  · exact a3 x hx y hy
section RIN
variable {d : Nat} {μ : am_Mem} {l : PM} {Q : Option Value ⊕ Nat → am_Mem → Prop} {a n : Nat}
theorem c_against {m : PM} {p : Int} {t u : List Cd} (ha : a = 171 ∨ a = 174) (hk : am_kd μ a = (3, n)) (hn : n ≤ 887880) (H : RS μ) (gt : GdT m t) (gu : GdT m u) (lt : (tx t).length ≤ 48) (lu : (tx u).length ≤ 48) (hr : RwT m t) (ht : TxR m a p u) (hp : 0 ≤ p ∧ p + 49 ≤ (n : Int)) : Wp d 237 (0, [some (.ref 125), some (.ref a), some (.int (zI p)), none], [], sA μ m l) (pI (fun y μ' => ∃ v : Int, y = zI v ∧ μ' = sA μ m l ∧ iR v ∧ ((v < 0 ∧ ltT (tx t) (tx u)) ∨ (v = 0 ∧ t = u) ∨ (0 < v ∧ ltT (tx u) (tx t)))) noX) := by
  have rg : ∀ {q : List Cd}, GdT m q → ∀ j : Nat, 0 ≤ (tx q).getD j 0 ∧ (tx q).getD j 0 ≤ 122 := fun {q} g j => by
    by_cases y : j < (tx q).length
    · have := GdT_g g y
      omega
    · rw [gD_out (by omega)]
      decide
  have pos : ∀ {q : List Cd}, GdT m q → ∀ x, x ∈ tx q → 0 < x := fun {q} g x hx => by have := (GdT_sg g).1 x hx; omega
  have fin : ∀ k : Nat, k < 49 → (∀ j : Nat, j < k → (tx t).getD j 0 = (tx u).getD j 0) → ((tx t).getD k 0 = 0 ∨ ¬ (tx t).getD k 0 = (tx u).getD k 0) → (pI (fun y μ' => ∃ v : Int, y = zI v ∧ μ' = sA μ m l ∧ iR v ∧ ((v < 0 ∧ ltT (tx t) (tx u)) ∨ (v = 0 ∧ t = u) ∨ (0 < v ∧ ltT (tx u) (tx t)))) noX) (.inl (some (.int (zI (m 176 (k : Int) - m a (p + (k : Int))))))) (sA μ m l) := by
    intro k hk hb he
    have e1 := hr k hk
    have e2 := ht k hk
    have g1 := rg gt k
    have g2 := rg gu k
    refine ⟨m 176 (k : Int) - m a (p + (k : Int)), rfl, rfl, by rw [e1, e2]; exact ⟨by omega, by omega⟩, ?_⟩
    rw [e1, e2]
    by_cases c1 : (tx t).getD k 0 < (tx u).getD k 0
    · exact Or.inl ⟨by omega, k, hb, c1⟩
    · by_cases c2 : (tx u).getD k 0 < (tx t).getD k 0
      · exact Or.inr (Or.inr ⟨by omega, k, fun j hj => (hb j hj).symm, c2⟩)
      · refine Or.inr (Or.inl ⟨by omega, tx_inj gt gu (gD_ext (pos gt) (pos gu) (fun j => ?_))⟩)
        have z : (tx t).getD k 0 = 0 ∧ (tx u).getD k 0 = 0 := by omega
        have lk : ∀ {q : List Cd}, GdT m q → (tx q).getD k 0 = 0 → (tx q).length ≤ k := fun {q} g e => by
          by_cases y : k < (tx q).length
          · have := GdT_g g y
            omega
          · omega
        have l1 := lk gt z.1
        have l2 := lk gu z.2
        by_cases y : j < k
        · exact hb j y
        · rw [gD_out (by omega), gD_out (by omega)]
  have loop : ∀ (f k : Nat), k + f = 48 → (∀ j : Nat, j < k → (tx t).getD j 0 = (tx u).getD j 0) → Wp d 237 (2, [some (.ref 125), some (.ref a), some (.int (zI p)), some (.int (zI (k : Int)))], [], sA μ m l) (pI (fun y μ' => ∃ v : Int, y = zI v ∧ μ' = sA μ m l ∧ iR v ∧ ((v < 0 ∧ ltT (tx t) (tx u)) ∨ (v = 0 ∧ t = u) ∨ (0 < v ∧ ltT (tx u) (tx t)))) noX) := by
    intro f
    induction f with
    | zero =>
      intro k hk hb
      refine R237_2 ha ‹am_kd μ a = (3, n)› hn H ⟨⟨by omega, by omega⟩, fun _ => ⟨⟨by omega, by omega⟩, ⟨by omega, by omega⟩, fin k (by omega) hb (Or.inl (gD_out (by omega)))⟩, fun z => by omega⟩
    | succ f ih =>
      intro k hk hb
      have e1 := hr k (by omega)
      have e2 := ht k (by omega)
      have g1 := rg gt k
      have g2 := rg gu k
      refine R237_2 ha ‹am_kd μ a = (3, n)› hn H ⟨⟨by omega, by omega⟩, fun z => by omega, fun _ => ⟨⟨by omega, by omega⟩, by rw [e1]; exact ⟨by omega, by omega⟩, fun z => ⟨⟨by omega, by omega⟩, fin k (by omega) hb (Or.inl (by rw [e1] at z; omega))⟩, fun _ => ⟨⟨by omega, by omega⟩, by rw [e2]; exact ⟨by omega, by omega⟩, fun z => fin k (by omega) hb (Or.inr (by rw [e1, e2] at z; exact z)), fun z => ?_⟩⟩⟩
      have go := ih (k + 1) (by omega) (fun j hj => by
        by_cases y : j = k
        · rw [y]
          rw [e1, e2] at z
          exact Classical.byContradiction z
        · exact hb j (by omega))
      rw [show ((k + 1 : Nat) : Int) = (k : Int) + 1 by omega] at go
      exact go
  exact R237_0 ha hk hn H (loop 48 0 (by omega) (fun j hj => absurd hj (Nat.not_lt_zero j)))
theorem c_rowToBytes {m : PM} {p : Int} {t : List Cd} (ha : a = 171 ∨ a = 174) (hk : am_kd μ a = (3, n)) (hn : n ≤ 887880) (H : RS μ) (gt : GdT m t) (hr : RwT m t) (hp : 0 ≤ p ∧ p + 49 ≤ (n : Int)) : Wp d 238 (0, [some (.ref 125), some (.ref a), some (.int (zI p)), none], [], sA μ m l) (pV (fun μ' => ∃ m', μ' = sA μ m' l ∧ TxR m' a p t ∧ ∀ c j, ¬ (c = a ∧ p ≤ j ∧ j < p + 49) → m' c j = m c j) noX) := by
  have rg : ∀ j : Nat, 0 ≤ (tx t).getD j 0 ∧ (tx t).getD j 0 ≤ 122 := fun j => by
    by_cases y : j < (tx t).length
    · have := GdT_g gt y
      omega
    · rw [gD_out (by omega)]
      decide
  have loop : ∀ (f k : Nat) (m1 : PM), k + f = 49 → (∀ j : Nat, j < k → m1 a (p + j) = (tx t).getD j 0) → (∀ c j, ¬ (c = a ∧ p ≤ j ∧ j < p + 49) → m1 c j = m c j) → Wp d 238 (2, [some (.ref 125), some (.ref a), some (.int (zI p)), some (.int (zI (k : Int)))], [], sA μ m1 l) (pV (fun μ' => ∃ m', μ' = sA μ m' l ∧ TxR m' a p t ∧ ∀ c j, ¬ (c = a ∧ p ≤ j ∧ j < p + 49) → m' c j = m c j) noX) := by
    intro f
    induction f with
    | zero =>
      intro k m1 hk' g fr
      exact R238_2 ha hk hn H ⟨⟨by omega, by omega⟩, fun _ => ⟨m1, rfl, fun j hj => g j (by omega), fr⟩, fun z => by omega⟩
    | succ f ih =>
      intro k m1 hk' g fr
      have e1 : m1 176 (k : Int) = (tx t).getD k 0 := by rw [fr 176 _ (by omega)]; exact hr k (by omega)
      have g1 := rg k
      refine R238_2 ha hk hn H ⟨⟨by omega, by omega⟩, fun z => by omega, fun _ => ⟨⟨by omega, by omega⟩, by rw [e1]; exact ⟨by omega, by omega⟩, ⟨by omega, by omega⟩, by rw [e1]; exact ⟨by omega, by omega⟩, ?_⟩⟩
      rw [e1]
      rintro m2 e2
      have go := ih (k + 1) m2 (by omega) (fun j hj => by
        by_cases y : j = k
        · rw [y, e2, up_s]
        · rw [e2, up_i (by omega)]
          exact g j (by omega)) (fun c j z => by rw [e2, up_o (by omega)]; exact fr c j z)
      rw [show ((k + 1 : Nat) : Int) = (k : Int) + 1 by omega] at go
      exact go
  exact R238_0 ha hk hn H (loop 49 0 m (by omega) (fun j hj => absurd hj (Nat.not_lt_zero j)) (fun _ _ _ => rfl))
/-- a new text among those that rise -/
theorem c_insert {m : PM} {p : Int} {t : List Cd} {L : List (List Cd)} (ha : a = 171 ∨ a = 174) (hk : am_kd μ a = (3, n)) (hn : n ≤ 887880) (H : RS μ) (gt : GdT m t) (lt : (tx t).length ≤ 48) (hr : RwT m t) (hL : SrT L) (hl : L.length ≤ 1000) (hs : ∀ k : Nat, k < L.length → TxR m a (p + 49 * (k : Int)) (L.getD k []) ∧ GdT m (L.getD k []) ∧ (tx (L.getD k [])).length ≤ 48) (hno : ¬ t ∈ L) (hp : 0 ≤ p ∧ p + 49 * ((L.length : Int) + 1) ≤ (n : Int))
    (hq : ∀ (m' : PM) (k : Nat), k ≤ L.length → SrT (insL k t L) → (∀ i : Nat, i < L.length + 1 → TxR m' a (p + 49 * (i : Int)) ((insL k t L).getD i [])) → (∀ c j, ¬ (c = a ∧ p ≤ j ∧ j < p + 49 * ((L.length : Int) + 1)) → m' c j = m c j) → Q (.inl (some (.int (zI 1)))) (sA μ m' l)) :
    Wp (d + 1) 236 (0, [some (.ref 125), some (.ref a), some (.int (zI p)), some (.int (zI (L.length : Int))), none, none], [], sA μ m l) Q := by
  have gmem : ∀ k, k < L.length → L.getD k [] ∈ L := fun k hk => by rw [List.getD_eq_getElem?_getD, List.getElem?_eq_getElem hk]; exact List.getElem_mem hk
  have rg : ∀ (k : Nat), k < L.length → ∀ j : Nat, 0 ≤ (tx (L.getD k [])).getD j 0 ∧ (tx (L.getD k [])).getD j 0 ≤ 122 := fun k hk' j => by
    by_cases y : j < (tx (L.getD k [])).length
    · have := GdT_g (hs k hk').2.1 y
      omega
    · rw [gD_out (by omega)]
      decide
  /- the place is found: what is behind it moves on -/
  have put : ∀ k : Nat, k ≤ L.length → SrT (insL k t L) → Wp (d + 1) 236 (61, [some (.ref 125), some (.ref a), some (.int (zI p)), some (.int (zI (L.length : Int))), some (.int (zI (k : Int))), some (.int (zI (49 * (L.length : Int) - 1)))], [], sA μ m l) Q := by
    intro k hkl hsr
    have loop : ∀ (f : Nat) (x5 : Int) (m1 : PM), x5 = 49 * (k : Int) + (f : Int) - 1 → x5 < 49 * (L.length : Int) → (∀ i : Int, x5 + 50 ≤ i → i < 49 * (L.length : Int) + 49 → m1 a (p + i) = m a (p + i - 49)) → (∀ c j, ¬ (c = a ∧ p + x5 + 50 ≤ j ∧ j < p + 49 * (L.length : Int) + 49) → m1 c j = m c j) → Wp (d + 1) 236 (61, [some (.ref 125), some (.ref a), some (.int (zI p)), some (.int (zI (L.length : Int))), some (.int (zI (k : Int))), some (.int (zI x5))], [], sA μ m1 l) Q := by
      intro f
      induction f with
      | zero =>
        intro x5 m1 hx hx2 g fr
        have gt1 : GdT m1 t := GdT_cg (fr _ _ (by omega)) (fun i => fr _ _ (by omega)) (fun i => fr _ _ (by omega)) gt
        have k2 := c_rowToBytes (d := d) (l := l) (m := m1) (p := p + 49 * (k : Int)) ha hk hn H gt1 (fun j hj => by rw [fr 176 _ (by omega)]; exact hr j hj) ⟨by omega, by omega⟩
        refine R236_61 ha hk hn H ⟨⟨by omega, by omega⟩, ⟨by omega, by omega⟩, fun _ => ⟨_, _, k2, fun μ' hp' => ?_, fun _ _ z => z.elim⟩, fun z => by omega⟩
        obtain ⟨m2, rfl, h1, f2⟩ := hp'
        refine R236_104 ha hk hn H (hq m2 k hkl hsr (fun i hi => ?_) (fun c j z => by rw [f2 c j (by omega)]; exact fr c j (by omega)))
        by_cases y1 : i < k
        · rw [insL_lt hkl y1]
          intro j hj
          rw [f2 a _ (by omega), fr a _ (by omega)]
          exact (hs i (by omega)).1 j hj
        · by_cases y2 : i = k
          · rw [y2, insL_eq hkl]
            exact h1
          · rw [insL_gt hkl (by omega)]
            intro j hj
            rw [f2 a _ (by omega)]
            have z := g (49 * (i : Int) + (j : Int)) (by omega) (by omega)
            rw [show p + 49 * (i : Int) + (j : Int) = p + (49 * (i : Int) + (j : Int)) by omega, z, ← (hs (i - 1) (by omega)).1 j hj]
            congr 1
            omega
      | succ f ih =>
        intro x5 m1 hx hx2 g fr
        have e1 : m1 a (p + x5) = m a (p + x5) := fr _ _ (by omega)
        have hq1 : 0 ≤ x5 / 49 := by omega
        have hv : 0 ≤ m a (p + x5) ∧ m a (p + x5) ≤ 122 := by
          have hk5 : (x5 / 49).toNat < L.length := by omega
          have z := (hs (x5 / 49).toNat hk5).1 (x5 % 49).toNat (by omega)
          rw [show p + 49 * (((x5 / 49).toNat : Nat) : Int) + (((x5 % 49).toNat : Nat) : Int) = p + x5 by omega] at z
          rw [z]
          exact rg _ hk5 _
        refine R236_61 ha hk hn H ⟨⟨by omega, by omega⟩, ⟨by omega, by omega⟩, fun z => by omega, fun _ => ⟨⟨by omega, by omega⟩, ⟨by omega, by omega⟩, by rw [e1]; exact ⟨by omega, by omega⟩, ?_⟩⟩
        rw [e1]
        rintro m2 e2
        refine ih (x5 - 1) m2 (by omega) (by omega) (fun i hi1 hi2 => ?_) (fun c j z => by rw [e2, up_o (by omega)]; exact fr c j (by omega))
        by_cases y : i = x5 + 49
        · rw [y, e2, show p + (x5 + 49) = p + x5 + 49 by omega, up_s]
          congr 1
          omega
        · rw [e2, up_i (by omega)]
          exact g i (by omega) hi2
    exact loop (49 * L.length - 49 * k) (49 * (L.length : Int) - 1) m (by omega) (by omega) (fun i hi1 hi2 => by omega) (fun _ _ _ => rfl)
  have ag : ∀ k : Nat, k < L.length → Wp d 237 (0, [some (.ref 125), some (.ref a), some (.int (zI (p + 49 * (k : Int)))), none], [], sA μ m l) (pI (fun y μ' => ∃ v : Int, y = zI v ∧ μ' = sA μ m l ∧ iR v ∧ ((v < 0 ∧ ltT (tx t) (tx (L.getD k []))) ∨ (v = 0 ∧ t = L.getD k []) ∨ (0 < v ∧ ltT (tx (L.getD k [])) (tx t)))) noX) := fun k hkl => by
    obtain ⟨s1, s2, s3⟩ := hs k hkl
    exact c_against (d := d) (l := l) (p := p + 49 * (k : Int)) ha hk hn H gt s2 lt s3 hr s1 ⟨by omega, by omega⟩
  have find : ∀ (f k : Nat), k + f = L.length → (∀ i, i < k → ltT (tx (L.getD i [])) (tx t)) → Wp (d + 1) 236 (3, [some (.ref 125), some (.ref a), some (.int (zI p)), some (.int (zI (L.length : Int))), some (.int (zI (k : Int))), none], [], sA μ m l) Q := by
    intro f
    induction f with
    | zero =>
      intro k hkl hlo
      have go := put k (by omega) (insL_srt hL (by omega) hlo (fun z => by omega))
      exact R236_3 ha hk hn H ⟨⟨by omega, by omega⟩, ⟨by omega, by omega⟩, fun _ => ⟨fun _ => go, fun z => by omega⟩, fun z => by omega⟩
    | succ f ih =>
      intro k hkl hlo
      have hlt : k < L.length := by omega
      refine R236_3 ha hk hn H ⟨⟨by omega, by omega⟩, ⟨by omega, by omega⟩, fun z => by omega, fun _ => ⟨_, _, ag k hlt, fun y μ' hp' => ?_, fun _ _ z => z.elim⟩⟩
      obtain ⟨v, rfl, rfl, hv, hc⟩ := hp'
      refine R236_21 ha hk hn H ⟨hv, fun z => ⟨⟨by omega, by omega⟩, ⟨by omega, by omega⟩, fun y => by omega, fun _ => ⟨_, _, ag k hlt, fun y μ' hp' => ?_, fun _ _ z => z.elim⟩⟩, fun z => ?_⟩
      · obtain ⟨v2, rfl, rfl, hv2, hc2⟩ := hp'
        have hlt2 : ltT (tx t) (tx (L.getD k [])) := by
          rcases hc with h | h | h
          · exact h.2
          · exact absurd (by rw [h.2]; exact gmem k hlt) hno
          · omega
        have hv20 : ¬ v2 = 0 := fun e => by
          rcases hc2 with h | h | h
          · omega
          · exact hno (by rw [h.2]; exact gmem k hlt)
          · omega
        exact R236_48 ha hk hn H ⟨hv2, fun _ => put k (by omega) (insL_srt hL (by omega) hlo (fun _ => hlt2)), fun y => absurd hv20 y⟩
      · have go := ih (k + 1) (by omega) (fun i hi => by
          by_cases y : i = k
          · rw [y]
            rcases hc with h | h | h
            · omega
            · omega
            · exact h.2
          · exact hlo i (by omega))
        rw [show ((k + 1 : Nat) : Int) = (k : Int) + 1 by omega] at go
        exact go
  exact R236_0 ha hk hn H (find L.length 0 (by omega) (fun i hi => absurd hi (Nat.not_lt_zero i)))
end RIN
