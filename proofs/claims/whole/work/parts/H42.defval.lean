/-! ===== defects and values, by themselves ===== -/
/-- how many numbers below n are so -/
noncomputable def cP (P : Nat → Prop) : Nat → Nat
  | 0 => 0
  | n + 1 => cP P n + cif (P n) 1 0
theorem cP_le {P R : Nat → Prop} : ∀ {n : Nat}, (∀ i, i < n → P i → R i) → cP P n ≤ cP R n := by
  intro n
  induction n with
  | zero => intro _; exact Nat.le_refl _
  | succ n ih =>
    intro h
    have h1 := ih (fun i hi => h i (by omega))
    show cP P n + cif (P n) 1 0 ≤ cP R n + cif (R n) 1 0
    by_cases q : P n
    · rw [cif_p q, cif_p (h n (by omega) q)]
      omega
    · rw [cif_n q]
      omega
theorem cP_lt {P R : Nat → Prop} : ∀ {n x : Nat}, (∀ i, i < n → P i → R i) → x < n → R x → ¬ P x → cP P n < cP R n := by
  intro n
  induction n with
  | zero => intro x _ hx; exact absurd hx (Nat.not_lt_zero x)
  | succ n ih =>
    intro x h hx hr hp
    have h1 := cP_le (fun i hi => h i (Nat.lt_succ_of_lt hi))
    show cP P n + cif (P n) 1 0 < cP R n + cif (R n) 1 0
    by_cases e : x = n
    · rw [e] at hr hp
      rw [cif_n hp, cif_p hr]
      omega
    · have h2 := ih (fun i hi => h i (Nat.lt_succ_of_lt hi)) (by omega : x < n) hr hp
      by_cases q : P n
      · rw [cif_p q, cif_p (h n (by omega) q)]
        omega
      · rw [cif_n q]
        omega
/-- one step, some steps -/
def StX (nx : List (List Nat)) (a b : Nat) : Prop := b ∈ nx.getD a []
def Rea (nx : List (List Nat)) (a b : Nat) : Prop := Relation.TransGen (StX nx) a b
/-- the defect of a state by itself -/
noncomputable def dfS (ov : Nat → Prop) (g : Nat → Nat → Int) (mn : Nat → Nat → Nat) (n : Nat) : Int := cif (ov n) (if g n 0 < 0 ∨ g n 1 < 0 then 4 else if g n 0 + g n 1 = 100 then 0 else 5) (if mn n 0 = 0 ∨ mn n 1 = 0 then 2 else if 1 < mn n 0 ∧ 1 < mn n 1 then 3 else 0)
/-- the first defect, and its state -/
def DfP (k N : Nat) (ov : Nat → Prop) (g : Nat → Nat → Int) (mn : Nat → Nat → Nat) (nx : List (List Nat)) (kind st : Int) : Prop :=
  (¬ k = 2 ∧ kind = 1 ∧ st = -1) ∨ (k = 2 ∧ ∃ n : Nat, n < N ∧ ¬ dfS ov g mn n = 0 ∧ kind = dfS ov g mn n ∧ st = (n : Int) ∧ ∀ i, i < n → dfS ov g mn i = 0) ∨ (k = 2 ∧ (∀ i, i < N → dfS ov g mn i = 0) ∧ ∃ n : Nat, n < N ∧ Rea nx n n ∧ kind = 6 ∧ st = (n : Int) ∧ ∀ i, i < n → ¬ Rea nx i i) ∨ (k = 2 ∧ (∀ i, i < N → dfS ov g mn i = 0) ∧ (∀ i, i < N → ¬ Rea nx i i) ∧ kind = 0 ∧ st = -1)
theorem DfP_uni {k N : Nat} {ov : Nat → Prop} {g : Nat → Nat → Int} {mn : Nat → Nat → Nat} {nx : List (List Nat)} {a b a' b' : Int} (h : DfP k N ov g mn nx a b) (h' : DfP k N ov g mn nx a' b') : a = a' ∧ b = b' := by
  rcases h with ⟨k1, e1, e2⟩ | ⟨k1, n, n1, n2, e1, e2, n3⟩ | ⟨k1, z, n, n1, n2, e1, e2, n3⟩ | ⟨k1, z, y, e1, e2⟩ <;> rcases h' with ⟨k1', e1', e2'⟩ | ⟨k1', n', n1', n2', e1', e2', n3'⟩ | ⟨k1', z', n', n1', n2', e1', e2', n3'⟩ | ⟨k1', z', y', e1', e2'⟩
  · exact ⟨e1.trans e1'.symm, e2.trans e2'.symm⟩
  · exact absurd k1' k1
  · exact absurd k1' k1
  · exact absurd k1' k1
  · exact absurd k1 k1'
  · have e : n = n' := by
      rcases Nat.lt_trichotomy n n' with q | q | q
      · exact absurd (n3' n q) n2
      · exact q
      · exact absurd (n3 n' q) n2'
    rw [e] at e1 e2
    exact ⟨e1.trans e1'.symm, e2.trans e2'.symm⟩
  · exact absurd (z' n n1) n2
  · exact absurd (z' n n1) n2
  · exact absurd k1 k1'
  · exact absurd (z n' n1') n2'
  · have e : n = n' := by
      rcases Nat.lt_trichotomy n n' with q | q | q
      · exact absurd n2 (n3' n q)
      · exact q
      · exact absurd n2' (n3 n' q)
    rw [e] at e2
    exact ⟨e1.trans e1'.symm, e2.trans e2'.symm⟩
  · exact absurd n2 (y' n n1)
  · exact absurd k1 k1'
  · exact absurd (z n' n1') n2'
  · exact absurd n2' (y n' n1')
  · exact ⟨e1.trans e1'.symm, e2.trans e2'.symm⟩
/-- where no state comes again: from what comes behind -/
theorem acy_ind {nx : List (List Nat)} {N : Nat} (hN : ∀ a, a < N → ∀ b, b ∈ nx.getD a [] → b < N) (hA : ∀ i, i < N → ¬ Rea nx i i) {P : Nat → Prop} (h : ∀ n, n < N → (∀ b, b ∈ nx.getD n [] → P b) → P n) : ∀ n, n < N → P n := by
  have key : ∀ (r n : Nat), n < N → cP (Rea nx n) N ≤ r → P n := by
    intro r
    induction r with
    | zero =>
      intro n hn hr
      refine h n hn (fun b hb => ?_)
      have := cP_lt (P := fun _ => False) (R := Rea nx n) (n := N) (x := b) (fun _ _ z => z.elim) (hN n hn b hb) (Relation.TransGen.single hb) (fun z => z)
      omega
    | succ r ih =>
      intro n hn hr
      refine h n hn (fun b hb => ih b (hN n hn b hb) ?_)
      have := cP_lt (P := Rea nx b) (R := Rea nx n) (n := N) (x := b) (fun i _ z => Relation.TransGen.trans (Relation.TransGen.single hb) z) (hN n hn b hb) (Relation.TransGen.single hb) (hA b (hN n hn b hb))
      omega
  exact fun n hn => key _ n hn (Nat.le_refl _)
/-- the least or the greatest -/
def wgF (lo : Prop) [Decidable lo] : Int → List Int → Int
  | a, [] => a
  | a, x :: xs => wgF lo (if lo then (if a ≤ x then a else x) else (if x ≤ a then a else x)) xs
/-- what a state is worth, by what comes behind it -/
noncomputable def wgh (ov : Nat → Prop) (g : Nat → Nat → Int) (mn : Nat → Nat → Nat) (nx : List (List Nat)) (v : Nat → Int) (n : Nat) : Int := cif (ov n) (g n 0) (match nx.getD n [] with
  | [] => 0
  | a :: t => wgF (mn n 0 = 1) (v a) (t.map v))
theorem wgF_cg {lo : Prop} [Decidable lo] {v v' : Nat → Int} : ∀ {t : List Nat} {a : Int}, (∀ b, b ∈ t → v b = v' b) → wgF lo a (t.map v) = wgF lo a (t.map v') := by
  intro t a h
  rw [List.map_congr_left h]
theorem wgh_cg {ov : Nat → Prop} {g : Nat → Nat → Int} {mn : Nat → Nat → Nat} {nx : List (List Nat)} {v v' : Nat → Int} {n : Nat} (h : ∀ b, b ∈ nx.getD n [] → v b = v' b) : wgh ov g mn nx v n = wgh ov g mn nx v' n := by
  unfold wgh
  cases hx : nx.getD n [] with
  | nil => rfl
  | cons a t =>
    rw [hx] at h
    show cif (ov n) (g n 0) (wgF (mn n 0 = 1) (v a) (t.map v)) = cif (ov n) (g n 0) (wgF (mn n 0 = 1) (v' a) (t.map v'))
    rw [h a List.mem_cons_self, wgF_cg (fun b hb => h b (List.mem_cons_of_mem _ hb))]
/-- the values -/
def VaP (N : Nat) (ov : Nat → Prop) (g : Nat → Nat → Int) (mn : Nat → Nat → Nat) (nx : List (List Nat)) (v : Nat → Int) : Prop := ∀ n, n < N → v n = wgh ov g mn nx v n
theorem VaP_uni {N : Nat} {ov : Nat → Prop} {g : Nat → Nat → Int} {mn : Nat → Nat → Nat} {nx : List (List Nat)} {v v' : Nat → Int} (hN : ∀ a, a < N → ∀ b, b ∈ nx.getD a [] → b < N) (hA : ∀ i, i < N → ¬ Rea nx i i) (h : VaP N ov g mn nx v) (h' : VaP N ov g mn nx v') : ∀ n, n < N → v n = v' n :=
  acy_ind hN hA (fun n hn hb => by rw [h n hn, h' n hn]; exact wgh_cg hb)
/-! ===== the reference: the table of states ===== -/
def TbX (m : PM) (N : Nat) (ov : Nat → Prop) (g : Nat → Nat → Int) (mn : Nat → Nat → Nat) (nx : List (List Nat)) : Prop := N ≤ 300 ∧ ∀ i : Nat, i < N → m 177 (i : Int) = bP (ov i) ∧ (∀ r : Nat, r < 2 → m 180 (2 * (i : Int) + (r : Int)) = g i r ∧ (-2 ≤ g i r ∧ g i r ≤ 100) ∧ m 181 (2 * (i : Int) + (r : Int)) = (mn i r : Int) ∧ mn i r ≤ 1000) ∧ (m 178 (i : Int) = ((nx.getD i []).length : Int) ∧ (nx.getD i []).length ≤ 40) ∧ NxR m i (nx.getD i []) ∧ ∀ y, y ∈ nx.getD i [] → y < N
theorem TbX_cg {m m' : PM} {N : Nat} {ov : Nat → Prop} {g : Nat → Nat → Int} {mn : Nat → Nat → Nat} {nx : List (List Nat)} (k : ∀ c j, (177 ≤ c ∧ c ≤ 181) → m' c j = m c j) (h : TbX m N ov g mn nx) : TbX m' N ov g mn nx := by
  refine ⟨h.1, fun i hi => ?_⟩
  obtain ⟨a1, a2, a3, a4, a5⟩ := h.2 i hi
  refine ⟨by rw [k _ _ (by omega)]; exact a1, fun r hr => ?_, ⟨by rw [k _ _ (by omega)]; exact a3.1, a3.2⟩, fun j hj => by rw [k _ _ (by omega)]; exact a4 j hj, a5⟩
  obtain ⟨b1, b2, b3, b4⟩ := a2 r hr
  exact ⟨by rw [k _ _ (by omega)]; exact b1, b2, by rw [k _ _ (by omega)]; exact b3, b4⟩
theorem nx_mem {ns : List Nat} {j : Nat} (h : j < ns.length) : ns.getD j 0 ∈ ns := (mem_gD ns 0 _).mpr ⟨j, h, rfl⟩
