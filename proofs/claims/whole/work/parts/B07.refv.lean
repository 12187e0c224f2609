/-! ===== the reference's sheet, as its checks see it ===== -/
theorem mem_gD {α : Type} (L : List α) (e c : α) : c ∈ L ↔ ∃ i : Nat, i < L.length ∧ L.getD i e = c := by
  constructor
  · intro h
    obtain ⟨i, hi, q⟩ := List.getElem_of_mem h
    refine ⟨i, hi, ?_⟩
    rw [List.getD_eq_getElem?_getD, List.getElem?_eq_getElem hi]
    exact q
  · rintro ⟨i, hi, q⟩
    rw [List.getD_eq_getElem?_getD, List.getElem?_eq_getElem hi] at q
    have z : L[i] = c := q
    rw [← z]
    exact List.getElem_mem hi
theorem ext_gD {α : Type} {L L' : List α} (e : α) (hl : L.length = L'.length) (h : ∀ i : Nat, i < L.length → L.getD i e = L'.getD i e) : L = L' := by
  apply List.ext_getElem hl
  intro i h1 h2
  have z := h i h1
  rw [List.getD_eq_getElem?_getD, List.getElem?_eq_getElem h1, List.getD_eq_getElem?_getD, List.getElem?_eq_getElem h2] at z
  exact z
theorem gD_app_l {α : Type} {L L' : List α} {e : α} {i : Nat} (h : i < L.length) : (L ++ L').getD i e = L.getD i e := by
  rw [List.getD_eq_getElem?_getD, List.getElem?_append_left h, ← List.getD_eq_getElem?_getD]
theorem gD_app_r {α : Type} {L L' : List α} {e : α} {i : Nat} (h : L.length ≤ i) : (L ++ L').getD i e = L'.getD (i - L.length) e := by
  rw [List.getD_eq_getElem?_getD, List.getElem?_append_right h, ← List.getD_eq_getElem?_getD]
/-- node k is this code's -/
def NdR (m : PM) (k : Int) (c : Cd) : Prop := if 5 ≤ c.1 then m 138 k = -1 ∧ m 139 k = (c.1 : Int) - 5 ∧ m 140 k = 0 else nX m (m 138 k) c.2 ∧ m 139 k = -1 ∧ m 140 k = (c.1 : Int)
theorem PsR_nd {m : PM} {ct : Nat} {w : Int} {R : Int → List Cd → Prop} (hR : ∀ k p, R k p → ∀ i : Nat, i < p.length → NdR m (k + i) (p.getD i (0, []))) : ∀ (ps : List (List Cd)) (j : Nat) (k : Int), PsR R m ct w j k ps → ∀ i : Nat, i < ps.flatten.length → NdR m (k + i) (ps.flatten.getD i (0, [])) := by
  intro ps
  induction ps with
  | nil => intro j k _ i hi; exact absurd hi (Nat.not_lt_zero i)
  | cons p ps ih =>
    intro j k h i hi
    obtain ⟨a1, a2, a3⟩ := h
    have hl : (p :: ps).flatten.length = p.length + ps.flatten.length := by simp
    show NdR m (k + i) ((p ++ ps.flatten).getD i (0, []))
    by_cases c : i < p.length
    · rw [gD_app_l c]
      exact hR k p a2 i c
    · rw [gD_app_r (by omega)]
      have z := ih (j + 1) (k + p.length) a3 (i - p.length) (by omega)
      rw [show k + (p.length : Int) + ((i - p.length : Nat) : Int) = k + (i : Int) by omega] at z
      exact z
theorem TmR_nd {m : PM} : ∀ (f : Nat) (k : Int) (cs : List Cd), TmR f m k cs → ∀ i : Nat, i < cs.length → NdR m (k + i) (cs.getD i (0, [])) := by
  intro f
  induction f with
  | zero => intro k cs h; exact absurd h (fun z => z)
  | succ f ih =>
    intro k cs h i hi
    cases cs with
    | nil => exact absurd h (fun z => z)
    | cons c rest =>
      obtain ⟨a, w⟩ := c
      unfold TmR at h
      simp only at h
      have hl : ((a, w) :: rest : List Cd).length = rest.length + 1 := by simp
      by_cases q : 5 ≤ a
      · rw [if_pos q] at h
        obtain ⟨h1, h2, h3, h4, _⟩ := h
        have e0 : i = 0 := by rw [hl, h1] at hi; exact Nat.lt_one_iff.mp hi
        rw [e0, show k + ((0 : Nat) : Int) = k by omega]
        show NdR m k (a, w)
        unfold NdR
        simp only
        rw [if_pos q]
        exact ⟨h2, h3, h4⟩
      · rw [if_neg q] at h
        obtain ⟨ps, e1, e2, e3, e4, e5, e6, e7⟩ := h
        cases i with
        | zero =>
          rw [show k + ((0 : Nat) : Int) = k by omega]
          show NdR m k (a, w)
          unfold NdR
          simp only
          rw [if_neg q]
          exact ⟨e3, e4, e5⟩
        | succ i =>
          have z := PsR_nd (fun k p hp => ih k p hp) ps 0 (k + 1) e7 i (by rw [e2]; omega)
          rw [e2, show k + 1 + (i : Int) = k + ((i + 1 : Nat) : Int) by omega] at z
          exact z
theorem TmR_top {m : PM} {f : Nat} {k : Int} {cs : List Cd} (h : TmR f m k cs) : 1 ≤ cs.length ∧ m 142 k = k + (cs.length : Int) := by
  cases f with
  | zero => exact absurd h (fun z => z)
  | succ f =>
    cases cs with
    | nil => exact absurd h (fun z => z)
    | cons c rest =>
      obtain ⟨a, w⟩ := c
      unfold TmR at h
      simp only at h
      have hl : ((a, w) :: rest : List Cd).length = rest.length + 1 := by simp
      refine ⟨by omega, ?_⟩
      by_cases q : 5 ≤ a
      · rw [if_pos q] at h
        obtain ⟨h1, h2, h3, h4, h5⟩ := h
        rw [h1] at hl ⊢
        rw [h5]
        rfl
      · rw [if_neg q] at h
        obtain ⟨ps, e1, e2, e3, e4, e5, e6, e7⟩ := h
        rw [e6, hl]
theorem PsR_get {R : Int → List Cd → Prop} {m : PM} {ct : Nat} {w : Int} : ∀ (ps : List (List Cd)) (j : Nat) (k : Int), PsR R m ct w j k ps → ∀ i : Nat, i < ps.length → ∃ x, m ct (4 * w + ((j + i : Nat) : Int)) = x ∧ k ≤ x ∧ x + ((ps.getD i []).length : Int) ≤ k + (ps.flatten.length : Int) ∧ R x (ps.getD i []) := by
  intro ps
  induction ps with
  | nil => intro j k _ i hi; exact absurd hi (Nat.not_lt_zero i)
  | cons p ps ih =>
    intro j k h i hi
    obtain ⟨a1, a2, a3⟩ := h
    have hl : ((p :: ps).flatten.length : Int) = p.length + ps.flatten.length := by simp
    have hl2 : (p :: ps).length = ps.length + 1 := rfl
    cases i with
    | zero => exact ⟨k, a1, Int.le_refl _, by show k + (p.length : Int) ≤ _; omega, a2⟩
    | succ i =>
      obtain ⟨x, b1, b2, b3, b4⟩ := ih (j + 1) _ a3 i (by omega)
      refine ⟨x, by rw [← b1]; exact congrArg (m ct) (by omega), by omega, ?_, b4⟩
      show x + ((ps.getD i []).length : Int) ≤ _
      omega
section RVW
variable {m : PM}
/-- a term's node, told by its codes -/
theorem tm_good {x : Int} {p : List Cd} (h9 : m 125 9 ≤ 1010) (h : TmR 11 m x p) (hw : wfT 11 p) (h0 : 0 ≤ x) (h1 : x + (p.length : Int) ≤ 1000) : GNd m x ∧ GNa m x := by
  obtain ⟨t1, t2⟩ := TmR_top h
  have key : ∀ k, x ≤ k → k < m 142 x → iR (m 138 k) ∧ iR (m 139 k) ∧ iR (m 140 k) := by
    intro k a b
    have z := TmR_nd 11 x p h (k - x).toNat (by omega)
    rw [show x + (((k - x).toNat : Nat) : Int) = k by omega] at z
    have hm : p.getD (k - x).toNat (0, []) ∈ p := (mem_gD p (0, []) _).mpr ⟨(k - x).toNat, by omega, rfl⟩
    have ok := wfT_ok 11 p hw _ hm
    unfold NdR at z
    split at z
    · rename_i q
      have := (ok q).2
      unfold iR
      omega
    · have := z.1.1
      have := z.1.2.1
      unfold iR
      omega
  exact ⟨⟨h0, by omega, by omega, fun k a b => (key k a b).2.1⟩, ⟨h0, by omega, by omega, key⟩⟩
theorem tm_hv {x : Int} {p : List Cd} (h : TmR 11 m x p) : hvP m x (-1) ↔ hasV p := by
  obtain ⟨t1, t2⟩ := TmR_top h
  constructor
  · rintro ⟨k, a, b, c, _⟩
    have z := TmR_nd 11 x p h (k - x).toNat (by omega)
    rw [show x + (((k - x).toNat : Nat) : Int) = k by omega] at z
    refine ⟨p.getD (k - x).toNat (0, []), (mem_gD p (0, []) _).mpr ⟨(k - x).toNat, by omega, rfl⟩, ?_⟩
    unfold NdR at z
    split at z
    · rename_i q; exact q
    · omega
  · rintro ⟨c, hc, h5⟩
    obtain ⟨i, hi, e⟩ := (mem_gD p (0, []) c).mp hc
    have z := TmR_nd 11 x p h i hi
    rw [e] at z
    unfold NdR at z
    rw [if_pos h5] at z
    exact ⟨x + i, by omega, by omega, by omega, Or.inl (by decide)⟩
theorem tm_hw {x : Int} {p : List Cd} {v : Nat} (h : TmR 11 m x p) : hvP m x (v : Int) ↔ hasW p v := by
  obtain ⟨t1, t2⟩ := TmR_top h
  constructor
  · rintro ⟨k, a, b, c, w⟩
    have z := TmR_nd 11 x p h (k - x).toNat (by omega)
    rw [show x + (((k - x).toNat : Nat) : Int) = k by omega] at z
    refine ⟨p.getD (k - x).toNat (0, []), (mem_gD p (0, []) _).mpr ⟨(k - x).toNat, by omega, rfl⟩, ?_⟩
    unfold NdR at z
    split at z
    · omega
    · omega
  · rintro ⟨c, hc, h5⟩
    obtain ⟨i, hi, e⟩ := (mem_gD p (0, []) c).mp hc
    have z := TmR_nd 11 x p h i hi
    rw [e] at z
    unfold NdR at z
    rw [if_pos (by omega)] at z
    exact ⟨x + i, by omega, by omega, by omega, Or.inr (by omega)⟩
theorem nX_fun {x : Int} {w w' : List Int} (h : nX m x w) (h' : nX m x w') : w = w' := h.2.2.symm.trans h'.2.2
theorem nX_in2 {x y : Int} {w : List Int} (hD : NmD m) (h : nX m x w) (h' : nX m y w) : x = y := by
  have z := hD.1 x.toNat y.toNat (by have := h.1; have := h.2.1; omega) (by have := h'.1; have := h'.2.1; omega) (h.2.2.trans h'.2.2.symm)
  have := h.1
  have := h'.1
  omega
theorem NdR_eq {k k' : Int} {c c' : Cd} (hD : NmD m) (h : NdR m k c) (h' : NdR m k' c') (o : 5 ≤ c.1 → c.2 = []) (o' : 5 ≤ c'.1 → c'.2 = []) : (m 138 k = m 138 k' ∧ m 139 k = m 139 k' ∧ m 140 k = m 140 k') ↔ c = c' := by
  obtain ⟨a, w⟩ := c
  obtain ⟨a', w'⟩ := c'
  unfold NdR at h h'
  simp only at h h' o o'
  constructor
  · rintro ⟨e1, e2, e3⟩
    by_cases q : 5 ≤ a
    · rw [if_pos q] at h
      by_cases q' : 5 ≤ a'
      · rw [if_pos q'] at h'
        have ea : a = a' := by omega
        rw [o q, o' q', ea]
      · rw [if_neg q'] at h'
        omega
    · rw [if_neg q] at h
      by_cases q' : 5 ≤ a'
      · rw [if_pos q'] at h'
        omega
      · rw [if_neg q'] at h'
        have ea : a = a' := by omega
        have hx := h.1
        rw [e1] at hx
        rw [ea, nX_fun hx h'.1]
  · intro e
    have ea : a = a' := congrArg Prod.fst e
    have ew : w = w' := congrArg Prod.snd e
    rw [← ea, ← ew] at h'
    by_cases q : 5 ≤ a
    · rw [if_pos q] at h h'
      omega
    · rw [if_neg q] at h h'
      have := nX_in2 hD h.1 h'.1
      omega
theorem tm_al {x y : Int} {p q : List Cd} (hD : NmD m) (h : TmR 11 m x p) (h' : TmR 11 m y q) (w : wfT 11 p) (w' : wfT 11 q) : alP m x y ↔ p = q := by
  obtain ⟨t1, t2⟩ := TmR_top h
  obtain ⟨u1, u2⟩ := TmR_top h'
  have key : ∀ i : Nat, i < p.length → i < q.length → ((m 138 (x + i) = m 138 (y + i) ∧ m 139 (x + i) = m 139 (y + i) ∧ m 140 (x + i) = m 140 (y + i)) ↔ p.getD i (0, []) = q.getD i (0, [])) := by
    intro i hi hi'
    exact NdR_eq hD (TmR_nd 11 x p h i hi) (TmR_nd 11 y q h' i hi') (fun z => (wfT_ok 11 p w _ ((mem_gD p (0, []) _).mpr ⟨i, hi, rfl⟩) z).1) (fun z => (wfT_ok 11 q w' _ ((mem_gD q (0, []) _).mpr ⟨i, hi', rfl⟩) z).1)
  unfold alP
  rw [t2, u2]
  constructor
  · rintro ⟨e1, e2⟩
    refine ext_gD (0, []) (by omega) (fun i hi => ?_)
    exact (key i hi (by omega)).mp (e2 i (by omega) (by omega))
  · intro e
    have el : p.length = q.length := by rw [e]
    refine ⟨by omega, fun k a b => ?_⟩
    have z := (key k.toNat (by omega) (by omega)).mpr (by rw [e])
    rw [show ((k.toNat : Nat) : Int) = k by omega] at z
    exact z
/-- an atom of the reference -/
theorem at_nodes {a nd : Int} {at_ : Atm} {d : Bool} (h : AtR m a at_ d nd) : (m 137 a = (at_.2.length : Int) ∧ at_.2.length ≤ 4) ∧ ∀ k : Nat, k < at_.2.length → ∃ x, m 136 (4 * a + (k : Int)) = x ∧ 0 ≤ x ∧ x + ((at_.2.getD k []).length : Int) ≤ nd ∧ TmR 11 m x (at_.2.getD k []) := by
  obtain ⟨b1, b0, b2, k0, b3, b4, b5⟩ := h
  refine ⟨⟨b2, b0⟩, fun k hk => ?_⟩
  obtain ⟨x, c1, c2, c3, c4⟩ := PsR_get at_.2 0 k0 b5 k hk
  rw [show ((0 + k : Nat) : Int) = (k : Int) by omega] at c1
  exact ⟨x, c1, by omega, by omega, c4⟩
theorem at_good {a nd : Int} {at_ : Atm} {d : Bool} (ha : 0 ≤ a ∧ a < 600) (h9 : m 125 9 ≤ 1010) (hnd : nd ≤ 1000) (ok : OkA at_) (h : AtR m a at_ d nd) : GAt m a ∧ GAa m a := by
  obtain ⟨⟨h1, h2⟩, h3⟩ := at_nodes h
  have key : ∀ k, 0 ≤ k → k < m 137 a → GNd m (m 136 (4 * a + k)) ∧ GNa m (m 136 (4 * a + k)) := by
    intro k k0 k1
    obtain ⟨x, c1, c2, c3, c4⟩ := h3 k.toNat (by omega)
    rw [show ((k.toNat : Nat) : Int) = k by omega] at c1
    rw [c1]
    exact tm_good h9 c4 (ok.2 _ ((mem_gD at_.2 [] _).mpr ⟨k.toNat, by omega, rfl⟩)) c2 (by omega)
  exact ⟨⟨ha, by omega, fun k k0 k1 => (key k k0 k1).1⟩, ⟨ha, by omega, fun k k0 k1 => (key k k0 k1).2⟩⟩
theorem at_any {a nd : Int} {at_ : Atm} {d : Bool} {P : Int → Prop} {P' : List Cd → Prop} (h : AtR m a at_ d nd) (hP : ∀ x p, p ∈ at_.2 → TmR 11 m x p → (P x ↔ P' p)) : (∃ k, 0 ≤ k ∧ k < m 137 a ∧ P (m 136 (4 * a + k))) ↔ ∃ p, p ∈ at_.2 ∧ P' p := by
  obtain ⟨⟨h1, h2⟩, h3⟩ := at_nodes h
  constructor
  · rintro ⟨k, k0, k1, z⟩
    obtain ⟨x, c1, c2, c3, c4⟩ := h3 k.toNat (by omega)
    rw [show ((k.toNat : Nat) : Int) = k by omega] at c1
    rw [c1] at z
    have hm := (mem_gD at_.2 [] _).mpr ⟨k.toNat, by omega, rfl⟩
    exact ⟨_, hm, (hP x _ hm c4).mp z⟩
  · rintro ⟨p, hp, z⟩
    obtain ⟨i, hi, e⟩ := (mem_gD at_.2 [] p).mp hp
    obtain ⟨x, c1, c2, c3, c4⟩ := h3 i hi
    rw [e] at c4
    exact ⟨i, by omega, by omega, by rw [c1]; exact (hP x p hp c4).mpr z⟩
theorem at_V {a nd : Int} {at_ : Atm} {d : Bool} (h : AtR m a at_ d nd) : ahP m a (-1) ↔ atV at_ := at_any h fun x p _ hx => tm_hv hx
theorem at_W {a nd : Int} {at_ : Atm} {d : Bool} {v : Nat} (h : AtR m a at_ d nd) : ahP m a (v : Int) ↔ atW at_ v := at_any h fun x p _ hx => tm_hw hx
theorem at_T {a nd y : Int} {at_ : Atm} {d : Bool} {q : List Cd} (hD : NmD m) (h : AtR m a at_ d nd) (ok : OkA at_) (hy : TmR 11 m y q) (hq : wfT 11 q) : htP m a y ↔ q ∈ at_.2 := by
  have z := at_any (P := fun x => alP m x y) (P' := fun p => p = q) h (fun x p hp hx => tm_al hD hx hy (ok.2 p hp) hq)
  exact z.trans ⟨fun ⟨p, a, b⟩ => b ▸ a, fun w => ⟨q, w, rfl⟩⟩
end RVW
