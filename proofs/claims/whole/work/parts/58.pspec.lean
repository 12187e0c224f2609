/-! ===== what a text's terms are: a reading by parts ===== -/
/-- how many parts a name has, and its signs; or 5 and a variable's number -/
abbrev Cd : Type := Nat × List Int
abbrev Rd (α : Type) : Type := Nat ⊕ (α × Nat × List (List Int))
abbrev pln (t : Int → Int) (n : Int) (i : Nat) : Prop := tK t n i = 3 ∧ ¬ tW t n i = wdL.getD 0 [] ∧ ¬ tW t n i = wdL.getD 1 []
/-- parts up to a closing parenthesis, r at most, mn at least -/
def pPs (K : Nat → Int) (f : Nat → List (List Int) → Rd (List Cd)) (mn : Nat) : Nat → Nat → List (List Int) → List (List Cd) → Rd (List (List Cd))
  | 0, i, vs, acc => if K i = 2 ∧ mn ≤ acc.length then .inr (acc, i + 1, vs) else .inl i
  | r + 1, i, vs, acc => if K i = 2 ∧ mn ≤ acc.length then .inr (acc, i + 1, vs) else match f i vs with
    | .inl x => .inl x
    | .inr (c, i', vs') => pPs K f mn r i' vs' (acc ++ [c])
def vrx (vs : List (List Int)) (w : List Int) : Nat := nix (fun k => vs.getD k []) w vs.length 0
/-- a term without parentheses -/
noncomputable def pT0 (t : Int → Int) (n : Int) (i : Nat) (vs : List (List Int)) (e : Rd (List Cd)) : Rd (List Cd) :=
  if tK t n i = 4 then (if vrx vs (tW t n i) < vs.length then .inr ([(5 + vrx vs (tW t n i), [])], i + 1, vs) else if vs.length = 8 then .inl i else .inr ([(5 + vs.length, [])], i + 1, vs ++ [tW t n i]))
  else if pln t n i then .inr ([(0, tW t n i)], i + 1, vs)
  else if tK t n i = 1 then e else .inl i
/-- a term: at most so many parentheses more in one another -/
noncomputable def pT (t : Int → Int) (n : Int) : Nat → Nat → List (List Int) → Rd (List Cd)
  | 0 => fun i vs => pT0 t n i vs (.inl i)
  | dl + 1 => fun i vs => pT0 t n i vs (if pln t n (i + 1) then (match pPs (tK t n) (pT t n dl) 1 4 (i + 2) vs [] with
    | .inl x => .inl x
    | .inr (ps, i', vs') => .inr ((ps.length, tW t n (i + 1)) :: ps.flatten, i', vs')) else .inl (i + 1))
/-- the names before token i -/
noncomputable def LsT (t : Int → Int) (n : Int) : Nat → List (List Int)
  | 0 => wdL
  | i + 1 => if isN (tK t n i) then LsA (LsT t n i) (tW t n i) else LsT t n i
theorem LsT_n {t : Int → Int} {n : Int} {i : Nat} (h : isN (tK t n i)) : LsT t n (i + 1) = LsA (LsT t n i) (tW t n i) := if_pos h
theorem LsA_sub {L : List (List Int)} {w x : List Int} (h : x ∈ L) : x ∈ LsA L w := by
  unfold LsA
  split
  · exact h
  · exact List.mem_append_left _ h
theorem LsT_w {t : Int → Int} {n : Int} {x : List Int} (h : x ∈ wdL) : ∀ i, x ∈ LsT t n i := by
  intro i
  induction i with
  | zero => exact h
  | succ i ih =>
    unfold LsT
    split
    · exact LsA_sub ih
    · exact ih
theorem LsT_s {t : Int → Int} {n : Int} {i : Nat} (h : isN (tK t n i) → tW t n i ∈ wdL) : LsT t n (i + 1) = LsT t n i := by
  by_cases q : isN (tK t n i)
  · rw [LsT_n q]
    exact if_pos (LsT_w (h q) i)
  · exact if_neg q
theorem nN1 {t : Int → Int} {n : Int} {i : Nat} {P : Prop} (h : tK t n i = 1 ∨ tK t n i = 2 ∨ tK t n i = 5) : isN (tK t n i) → P := fun z => absurd z (by rintro (z | z) <;> omega)
/-- the reader's state at token i -/
def BI (t : Int → Int) (n : Int) (m : PM) (i : Nat) (vs : List (List Int)) : Prop :=
  (m 128 = t ∧ m 125 8 = n ∧ TX m) ∧ (m 125 28 = tK t n i ∧ m 125 29 = tkP t n i ∧ m 125 30 = tF t n i ∧ m 125 31 = tE t n i) ∧ (NmW m ∧ NmD m ∧ (m 125 9 ≤ 10 + (nt t n i : Int) ∧ nmL m = LsT t n i)) ∧ (0 ≤ m 125 22 ∧ m 125 22 ≤ (nt t n i : Int)) ∧ (m 125 38 = (vs.length : Int) ∧ vs.length ≤ 8 ∧ ∀ j : Nat, j < vs.length → nX m (m 146 j) (vs.getD j [])) ∧ m 125 32 = 0
/-- the reader's loop goes from one memory to another -/
def Rch (μ : am_Mem) (l : PM) (m m' : PM) : Prop := ∀ (d : Nat) (Q : Option Value ⊕ Nat → am_Mem → Prop), Wp (d + 8) 155 (55, [some (.ref 125)], [], sA μ m' l) Q → Wp (d + 8) 155 (55, [some (.ref 125)], [], sA μ m l) Q
theorem Rch.refl {μ : am_Mem} {l m : PM} : Rch μ l m m := fun _ _ h => h
theorem Rch.trans {μ : am_Mem} {l m m' m'' : PM} (h : Rch μ l m m') (h' : Rch μ l m' m'') : Rch μ l m m'' := fun d Q z => h d Q (h' d Q z)
/-- the parts of what is open, from part j and node k on -/
def PsR (R : Int → List Cd → Prop) (m : PM) (ct : Nat) (w : Int) : Nat → Int → List (List Cd) → Prop
  | _, _, [] => True
  | j, k, p :: ps => m ct (4 * w + j) = k ∧ R k p ∧ PsR R m ct w (j + 1) (k + p.length) ps
/-- node k is this term's -/
def TmR : Nat → PM → Int → List Cd → Prop
  | 0, _, _, _ => False
  | f + 1, m, k, cs => match cs with
    | [] => False
    | (a, w) :: rest => if 5 ≤ a then rest = [] ∧ m 138 k = -1 ∧ m 139 k = (a : Int) - 5 ∧ m 140 k = 0 ∧ m 142 k = k + 1
      else ∃ ps : List (List Cd), ps.length = a ∧ ps.flatten = rest ∧ nX m (m 138 k) w ∧ m 139 k = -1 ∧ m 140 k = a ∧ m 142 k = k + (rest.length + 1 : Nat) ∧ PsR (TmR f m) m 141 k 0 (k + 1) ps
theorem PsR_cg {R R' : Int → List Cd → Prop} {m m' : PM} {ct ct' : Nat} {w w' : Int} : ∀ (ps : List (List Cd)) (j : Nat) (k : Int), (∀ i : Nat, j ≤ i → i < j + ps.length → m' ct' (4 * w' + i) = m ct (4 * w + i)) → (∀ x p, k ≤ x → x + (p.length : Int) ≤ k + (ps.flatten.length : Int) → R x p → R' x p) → PsR R m ct w j k ps → PsR R' m' ct' w' j k ps := by
  intro ps
  induction ps with
  | nil => intro j k _ _ _; trivial
  | cons p ps ih =>
    intro j k h1 h2 h
    obtain ⟨a1, a2, a3⟩ := h
    have hl : ((p :: ps).flatten.length : Int) = p.length + ps.flatten.length := by simp
    have hl2 : (p :: ps).length = ps.length + 1 := rfl
    refine ⟨by rw [h1 j (by omega) (by omega)]; exact a1, h2 k p (by omega) (by omega) a2, ih (j + 1) (k + p.length) (fun i hi1 hi2 => h1 i (by omega) (by omega)) (fun x q hx hq => h2 x q (by omega) (by omega)) a3⟩
theorem TmR_cg {m m' : PM} (hX : ∀ x w, nX m x w → nX m' x w) : ∀ (f : Nat) (k : Int) (cs : List Cd), (∀ i, k ≤ i → i < k + cs.length → m' 138 i = m 138 i ∧ m' 139 i = m 139 i ∧ m' 140 i = m 140 i ∧ m' 142 i = m 142 i) → (∀ i, 4 * k ≤ i → i < 4 * (k + cs.length) → m' 141 i = m 141 i) → TmR f m k cs → TmR f m' k cs := by
  intro f
  induction f with
  | zero => intro k cs _ _ h; exact h
  | succ f ih =>
    intro k cs h1 h2 h
    cases cs with
    | nil => exact h
    | cons c rest =>
      obtain ⟨a, w⟩ := c
      have hlen : (((a, w) :: rest : List Cd).length : Int) = rest.length + 1 := by simp
      obtain ⟨b1, b2, b3, b4⟩ := h1 k (by omega) (by omega)
      unfold TmR at h ⊢
      simp only at h ⊢
      split
      · rename_i q
        rw [if_pos q] at h
        obtain ⟨c0, c1, c2, c3, c4⟩ := h
        exact ⟨c0, by rw [b1]; exact c1, by rw [b2]; exact c2, by rw [b3]; exact c3, by rw [b4]; exact c4⟩
      · rename_i q
        rw [if_neg q] at h
        obtain ⟨ps, e1, e2, e3, e4, e5, e6, e7⟩ := h
        have hfl : (ps.flatten.length : Int) = rest.length := by rw [e2]
        refine ⟨ps, e1, e2, by rw [b1]; exact hX _ _ e3, by rw [b2]; exact e4, by rw [b3]; exact e5, by rw [b4]; exact e6, ?_⟩
        refine PsR_cg ps 0 (k + 1) (fun i _ hi => h2 _ (by omega) (by omega)) (fun x p hx hp hR => ih x p (fun i i1 i2 => h1 i (by omega) (by omega)) (fun i i1 i2 => h2 i (by omega) (by omega)) hR) e7
theorem PsR_snoc {R : Int → List Cd → Prop} {m : PM} {ct : Nat} {w : Int} {p : List Cd} : ∀ (ps : List (List Cd)) (j : Nat) (k : Int), PsR R m ct w j k ps → m ct (4 * w + ((j + ps.length : Nat) : Int)) = k + (ps.flatten.length : Int) → R (k + (ps.flatten.length : Int)) p → PsR R m ct w j k (ps ++ [p]) := by
  intro ps
  induction ps with
  | nil =>
    intro j k _ h1 h2
    have e : k + (([] : List (List Cd)).flatten.length : Int) = k := by simp
    rw [e] at h1 h2
    exact ⟨h1, h2, trivial⟩
  | cons q ps ih =>
    intro j k h h1 h2
    obtain ⟨a1, a2, a3⟩ := h
    have hl : ((q :: ps).flatten.length : Int) = q.length + ps.flatten.length := by simp
    have hl2 : (q :: ps).length = ps.length + 1 := rfl
    refine ⟨a1, a2, ih (j + 1) (k + q.length) a3 ?_ ?_⟩
    · have e : j + 1 + ps.length = j + (q :: ps).length := by omega
      rw [e, h1]
      omega
    · have e : k + (q.length : Int) + (ps.flatten.length : Int) = k + ((q :: ps).flatten.length : Int) := by omega
      rw [e]
      exact h2
/-- a token more -/
theorem adM_tok {t : Int → Int} {n : Int} {m : PM} {i : Nat} (h1 : m 128 = t) (h2 : m 125 8 = n) (h3 : m 125 31 = tE t n i) : adM m 125 28 = tK t n (i + 1) ∧ adM m 125 29 = tkP t n (i + 1) ∧ adM m 125 30 = tF t n (i + 1) ∧ adM m 125 31 = tE t n (i + 1) := by
  have e : skP (m 128) (m 125 8) (m 125 31) = tkP t n (i + 1) := by rw [h1, h2, h3]; rfl
  unfold adM
  rw [e, h1, h2]
  refine ⟨up_s _ _ _ _, ?_, ?_, ?_⟩
  · rw [up_i (by decide), up_i (by decide), up_i (by decide), up_s]
  · rw [up_i (by decide), up_i (by decide), up_s]; rfl
  · rw [up_i (by decide), up_s]; rfl
theorem BI_adv {t : Int → Int} {n : Int} {mm : PM} {i : Nat} {vs : List (List Int)} (h128 : mm 128 = t) (h8 : mm 125 8 = n) (T : TX mm) (h31 : mm 125 31 = tE t n i) (hW : NmW mm) (hD : NmD mm) (h9 : mm 125 9 ≤ 10 + (nt t n (i + 1) : Int) ∧ nmL mm = LsT t n (i + 1)) (hnd : 0 ≤ mm 125 22 ∧ mm 125 22 ≤ (nt t n (i + 1) : Int)) (hv : mm 125 38 = (vs.length : Int) ∧ vs.length ≤ 8 ∧ ∀ j : Nat, j < vs.length → nX mm (mm 146 j) (vs.getD j [])) (hf : mm 125 32 = 0) : BI t n (adM mm) (i + 1) vs := by
  have k1 : ∀ c i, ¬ c = 125 → adM mm c i = mm c i := fun c i h => k_adM (fun z => h z.1) (fun z => h z.1) (fun z => h z.1) (fun z => h z.1)
  have k2 : ∀ i, ¬ i = 28 → ¬ i = 29 → ¬ i = 30 → ¬ i = 31 → adM mm 125 i = mm 125 i := fun i a b c d => k_adM (fun z => a z.2) (fun z => b z.2) (fun z => c z.2) (fun z => d z.2)
  have e9 := k2 9 (by decide) (by decide) (by decide) (by decide)
  refine ⟨⟨?_, by rw [k2 8 (by decide) (by decide) (by decide) (by decide)]; exact h8, TX_cg (k2 8 (by decide) (by decide) (by decide) (by decide)) (fun i => k1 128 i (by decide)) T⟩, adM_tok h128 h8 h31, ⟨NmW_cg e9 (fun i => k1 129 i (by decide)) (fun i => k1 130 i (by decide)) hW, NmD_cg e9 (fun i => k1 129 i (by decide)) (fun i => k1 130 i (by decide)) hD, ⟨by rw [e9]; exact h9.1, by rw [nmL_cg e9 (fun i => k1 129 i (by decide)) (fun i => k1 130 i (by decide))]; exact h9.2⟩⟩, ?_, ⟨?_, hv.2.1, fun j hj => ?_⟩, ?_⟩
  · rw [← h128]
    funext i
    exact k1 128 i (by decide)
  · rw [k2 22 (by decide) (by decide) (by decide) (by decide)]; exact hnd
  · rw [k2 38 (by decide) (by decide) (by decide) (by decide)]; exact hv.1
  · rw [k1 146 _ (by decide)]
    exact nX_cg e9 (fun i => k1 129 i (by decide)) (fun i => k1 130 i (by decide)) (hv.2.2 j hj)
  · rw [k2 32 (by decide) (by decide) (by decide) (by decide)]; exact hf
