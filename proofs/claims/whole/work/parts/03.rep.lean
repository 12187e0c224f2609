/-! ===== the small machine's memory in the heap ===== -/
def am_ad (h0 : Nat) (xa : Nat → Nat) (r : Nat) : Nat := if r < 16 then xa r else h0 + r - 16
def am_cv (h0 : Nat) (xa : Nat → Nat) : Value → Value
  | .ref r => .ref (am_ad h0 xa r)
  | v => v
def am_lp : Nat → List (Option Value) → List (Nat × Value)
  | _, [] => []
  | i, some v :: l => (i, v) :: am_lp (i + 1) l
  | i, none :: l => am_lp (i + 1) l
abbrev am_cl (h0 : Nat) (xa : Nat → Nat) (lv : List (Option Value)) : List (Nat × Value) := (am_lp 0 lv).map (fun q => (q.1, am_cv h0 xa q.2))
theorem am_cv_cat (h0 : Nat) (xa : Nat → Nat) (v : Value) : (am_cv h0 xa v).category = v.category := by cases v <;> rfl
theorem am_lp_mem : ∀ (lv : List (Option Value)) (i : Nat) (q : Nat × Value), q ∈ am_lp i lv ↔ ∃ k, q.1 = i + k ∧ am_lget lv k = some q.2 := by
  intro lv
  induction lv with
  | nil =>
    intro i q
    constructor
    · intro h; cases h
    · rintro ⟨k, -, h⟩; cases h
  | cons o l ih =>
    intro i q
    have key : (∃ k, q.1 = i + 1 + k ∧ am_lget l k = some q.2) ↔ ∃ k, q.1 = i + (k + 1) ∧ am_lget (o :: l) (k + 1) = some q.2 := by
      constructor
      · rintro ⟨k, h1, h2⟩; exact ⟨k, by omega, h2⟩
      · rintro ⟨k, h1, h2⟩; exact ⟨k, by omega, h2⟩
    cases o with
    | none =>
      show q ∈ am_lp (i + 1) l ↔ _
      rw [ih, key]
      constructor
      · rintro ⟨k, h1, h2⟩; exact ⟨k + 1, h1, h2⟩
      · rintro ⟨k, h1, h2⟩
        cases k with
        | zero => cases h2
        | succ k => exact ⟨k, h1, h2⟩
    | some v =>
      show q ∈ (i, v) :: am_lp (i + 1) l ↔ _
      rw [List.mem_cons, ih, key]
      constructor
      · rintro (rfl | ⟨k, h1, h2⟩)
        · exact ⟨0, rfl, rfl⟩
        · exact ⟨k + 1, h1, h2⟩
      · rintro ⟨k, h1, h2⟩
        cases k with
        | zero =>
          left
          obtain ⟨a, b⟩ := q
          have e1 : a = i := h1
          have e2 : some v = some b := h2
          cases e2
          rw [e1]
        | succ k => exact Or.inr ⟨k, h1, h2⟩
theorem am_cl_mem {h0 : Nat} {xa : Nat → Nat} {lv : List (Option Value)} {q : Nat × Value} : q ∈ am_cl h0 xa lv ↔ ∃ j w, am_lget lv j = some w ∧ q = (j, am_cv h0 xa w) := by
  constructor
  · intro h
    obtain ⟨z, hz, rfl⟩ := List.mem_map.mp h
    obtain ⟨k, h1, h2⟩ := (am_lp_mem lv 0 z).mp hz
    have h1' : z.1 = k := by omega
    exact ⟨z.1, z.2, by rw [h1']; exact h2, rfl⟩
  · rintro ⟨j, w, h, rfl⟩
    exact List.mem_map.mpr ⟨(j, w), (am_lp_mem lv 0 (j, w)).mpr ⟨j, by simp, h⟩, rfl⟩
theorem am_get {h0 : Nat} {xa : Nat → Nat} {ls : Array Slot} {nL : Nat} {lv : List (Option Value)} (h : lv_has ls nL (am_cl h0 xa lv)) {i : Nat} {v : Value} (hg : am_lget lv i = some v) : ls[i]? = some (.val (am_cv h0 xa v)) :=
  h.2.2 (i, am_cv h0 xa v) (am_cl_mem.mpr ⟨i, v, hg, rfl⟩)
theorem am_lset_ne : ∀ (lv : List (Option Value)) (i j : Nat) (o : Option Value), j ≠ i → am_lget (am_lset lv i o) j = am_lget lv j := by
  intro lv
  induction lv with
  | nil => intro i j o h; rfl
  | cons a l ih =>
    intro i j o h
    cases i with
    | zero =>
      cases j with
      | zero => exact absurd rfl h
      | succ j => rfl
    | succ i =>
      cases j with
      | zero => rfl
      | succ j => exact ih i j o (fun e => h (by rw [e]))
theorem am_lset_at : ∀ (lv : List (Option Value)) (i : Nat) (o : Option Value) (w : Value), am_lget (am_lset lv i o) i = some w → o = some w := by
  intro lv
  induction lv with
  | nil => intro i o w h; cases h
  | cons a l ih =>
    intro i o w h
    cases i with
    | zero => exact h
    | succ i => exact ih i o w h
theorem am_clr_get {lv : List (Option Value)} {i j : Nat} {w : Value} (h : am_lget (am_clr lv i) j = some w) : am_lget lv j = some w ∧ ¬ (j + 1 = i ∧ w.category = 2) := by
  unfold am_clr at h
  cases i with
  | zero => exact ⟨h, fun q => by omega⟩
  | succ n =>
    simp only at h
    split at h
    · rename_i v hv
      split at h
      · rename_i hc
        by_cases hj : j = n
        · subst hj
          have := am_lset_at _ _ _ _ h
          cases this
        · rw [am_lset_ne _ _ _ _ hj] at h
          exact ⟨h, fun q => hj (by omega)⟩
      · rename_i hc
        refine ⟨h, fun q => ?_⟩
        obtain rfl : j = n := by omega
        rw [h] at hv
        cases hv
        exact hc q.2
    · rename_i hv
      refine ⟨h, fun q => ?_⟩
      obtain rfl : j = n := by omega
      rw [h] at hv
      cases hv
theorem am_h1 {h0 : Nat} {xa : Nat → Nat} {ls : Array Slot} {nL : Nat} {lv : List (Option Value)} {i : Nat} {v : Value} (h : lv_has ls nL ((i, am_cv h0 xa v) :: (am_cl h0 xa lv).filter (fun q => !(q.1 == i) && !(q.1 + 1 == i && q.2.category == 2)))) : lv_has ls nL (am_cl h0 xa (am_set1 lv i v)) := by
  refine ⟨h.1, h.2.1, fun q hq => ?_⟩
  obtain ⟨j, w, hg, rfl⟩ := am_cl_mem.mp hq
  by_cases hj : j = i
  · subst hj
    cases am_lset_at _ _ _ _ hg
    exact h.2.2 _ List.mem_cons_self
  · rw [am_set1, am_lset_ne _ _ _ _ hj] at hg
    obtain ⟨h1, h2⟩ := am_clr_get hg
    refine h.2.2 _ (List.mem_cons_of_mem _ (List.mem_filter.mpr ⟨am_cl_mem.mpr ⟨j, w, h1, rfl⟩, ?_⟩))
    simp only [am_cv_cat]
    simp [hj]
    exact (Classical.em (j + 1 = i)).elim (fun e1 => Or.inr fun e2 => h2 ⟨e1, e2⟩) Or.inl
theorem am_hd {h0 : Nat} {xa : Nat → Nat} {ls : Array Slot} {nL : Nat} {lv : List (Option Value)} {i : Nat} {z : Value} (h : lv_has ls nL ((i, z) :: (am_cl h0 xa lv).filter (fun q => !(q.1 == i) && !(q.1 + 1 == i && q.2.category == 2)))) : lv_has ls nL (am_cl h0 xa (am_drp lv i)) := by
  refine ⟨h.1, h.2.1, fun q hq => ?_⟩
  obtain ⟨j, w, hg, rfl⟩ := am_cl_mem.mp hq
  by_cases hj : j = i
  · subst hj
    cases am_lset_at _ _ _ _ hg
  · rw [am_drp, am_lset_ne _ _ _ _ hj] at hg
    obtain ⟨h1, h2⟩ := am_clr_get hg
    refine h.2.2 _ (List.mem_cons_of_mem _ (List.mem_filter.mpr ⟨am_cl_mem.mpr ⟨j, w, h1, rfl⟩, ?_⟩))
    simp only [am_cv_cat]
    simp [hj]
    exact (Classical.em (j + 1 = i)).elim (fun e1 => Or.inr fun e2 => h2 ⟨e1, e2⟩) Or.inl
theorem am_h2 {h0 : Nat} {xa : Nat → Nat} {ls : Array Slot} {nL : Nat} {lv : List (Option Value)} {i : Nat} {v : Value} (h : lv_has ls nL ((i, am_cv h0 xa v) :: (am_cl h0 xa lv).filter (fun q => !(q.1 == i) && (!(q.1 == i + 1) && !(q.1 + 1 == i && q.2.category == 2))))) : lv_has ls nL (am_cl h0 xa (am_set2 lv i v)) := by
  refine ⟨h.1, h.2.1, fun q hq => ?_⟩
  obtain ⟨j, w, hg, rfl⟩ := am_cl_mem.mp hq
  by_cases hj1 : j = i + 1
  · subst hj1
    cases am_lset_at _ _ _ _ hg
  · rw [am_set2, am_lset_ne _ _ _ _ hj1] at hg
    by_cases hj : j = i
    · subst hj
      cases am_lset_at _ _ _ _ hg
      exact h.2.2 _ List.mem_cons_self
    · rw [am_lset_ne _ _ _ _ hj] at hg
      obtain ⟨h1, h2⟩ := am_clr_get hg
      refine h.2.2 _ (List.mem_cons_of_mem _ (List.mem_filter.mpr ⟨am_cl_mem.mpr ⟨j, w, h1, rfl⟩, ?_⟩))
      simp only [am_cv_cat]
      simp [hj, hj1]
      exact (Classical.em (j + 1 = i)).elim (fun e1 => Or.inr fun e2 => h2 ⟨e1, e2⟩) Or.inl
theorem am_pad_get : ∀ (n : Nat) (l : List (Option Value)) (j : Nat) (w : Value), am_lget (am_pad n l) j = some w → am_lget l j = some w := by
  intro n
  induction n with
  | zero => intro l j w h; exact h
  | succ n ih =>
    intro l j w h
    cases l with
    | nil =>
      cases j with
      | zero => cases h
      | succ j => have := ih [] j w h; cases this
    | cons o l =>
      cases j with
      | zero => exact h
      | succ j => exact ih l j w h
theorem am_lay_get : ∀ (vs : List Value) (i j : Nat) (w : Value), am_lget (am_lay vs) j = some w → (i + j, w) ∈ lv_args i vs := by
  intro vs
  induction vs with
  | nil => intro i j w h; cases h
  | cons v vs ih =>
    intro i j w h
    unfold am_lay at h
    unfold lv_args
    by_cases hc : v.category = 2
    · rw [if_pos hc] at h
      rw [if_pos hc]
      cases j with
      | zero => cases h; exact List.mem_cons_self
      | succ j =>
        cases j with
        | zero => cases h
        | succ j =>
          have := ih (i + 2) j w h
          rw [show i + 2 + j = i + (j + 1 + 1) by omega] at this
          exact List.mem_cons_of_mem _ this
    · rw [if_neg hc] at h
      rw [if_neg hc]
      cases j with
      | zero => cases h; exact List.mem_cons_self
      | succ j =>
        have := ih (i + 1) j w h
        rw [show i + 1 + j = i + (j + 1) by omega] at this
        exact List.mem_cons_of_mem _ this
theorem am_args (h0 : Nat) (xa : Nat → Nat) (vs : List Value) : ∀ i, lv_args i (vs.map (am_cv h0 xa)) = (lv_args i vs).map (fun q => (q.1, am_cv h0 xa q.2)) := by
  induction vs with
  | nil => intro i; rfl
  | cons v vs ih =>
    intro i
    show lv_args i (am_cv h0 xa v :: vs.map (am_cv h0 xa)) = _
    unfold lv_args
    rw [am_cv_cat, ih]
    rfl
theorem am_hent {h0 : Nat} {xa : Nat → Nat} {ls : Array Slot} {nL n : Nat} {vs : List Value} (h : lv_has ls nL (lv_args 0 (vs.map (am_cv h0 xa)))) : lv_has ls nL (am_cl h0 xa (am_pad n (am_lay vs))) := by
  refine ⟨h.1, h.2.1, fun q hq => ?_⟩
  obtain ⟨j, w, hg, rfl⟩ := am_cl_mem.mp hq
  have h1 := am_lay_get vs 0 j w (am_pad_get _ _ _ _ hg)
  rw [Nat.zero_add] at h1
  rw [am_args] at h
  exact h.2.2 _ (List.mem_map.mpr ⟨(j, w), h1, rfl⟩)
def am_arr (s0 : State) (H : Heap) (a : Nat) (ty : FieldType) (n : Nat) (f : Nat → Value) : Prop := ∃ cell : Cell, H[a]? = some cell ∧ s0.isArrayOf cell ty ∧ cell.vm ≠ .unknown ∧ cell.slots.size = n ∧ ∀ j, j < n → cell.slots[j]? = some (f j)
def am_aty : Nat → Option FieldType
  | 2 => some .int
  | 3 => some .byte
  | 4 => some .boolean
  | 5 => some .char
  | 6 => some .long
  | 7 => some .short
  | _ => none
def am_xty : Nat → Option FieldType
  | 8 => some .int
  | 10 => some .byte
  | _ => none
theorem am_axt {t : Nat} {ty ty' : FieldType} (h : am_aty t = some ty) (h' : am_xty t = some ty') : False := by
  unfold am_aty at h
  split at h <;> first | (cases h'; done) | cases h
def am_val (μ : am_Mem) (t r j : Nat) : Value := if t = 6 then .long (am_L μ r j) else .int (am_A μ r j)
def am_xr (s0 : State) (H : Heap) (a : Nat) (ty : FieldType) (n : Nat) (f : Nat → Value) : Prop := ∃ cell : Cell, H[a]? = some cell ∧ s0.isArrayOf cell ty ∧ cell.vm ≠ .unknown ∧ (n ≤ cell.slots.size ∧ cell.slots.size.toInt32 = Int32.ofNat n) ∧ ∀ j, j < n → cell.slots[j]? = some (f j)
def am_Rep (s0 : State) (xa : Nat → Nat) (D : va_G) (cl : List vw_C) (μ : am_Mem) (H : Heap) : Prop :=
  16 ≤ am_n μ ∧ H.size + 16 = s0.heap.size + am_n μ ∧ (∀ q, q < s0.heap.size → H[q]? = s0.heap[q]?) ∧
  (∀ r ci, am_kd μ r = (1, ci) → 16 ≤ r ∧ ∃ q, cl[ci]? = some q ∧ t_OB (am_ad s0.heap.size xa r) (D.1 ci) q.2.2 (D.2 ci) H (fun j => am_cv s0.heap.size xa (am_O μ r j))) ∧
  (∀ r t n ty, am_kd μ r = (t, n) → am_aty t = some ty → 16 ≤ r ∧ am_arr s0 H (am_ad s0.heap.size xa r) ty n (am_val μ t r)) ∧
  (∀ r t n ty, am_kd μ r = (t, n) → am_xty t = some ty → r < 16 ∧ xa r < s0.heap.size ∧ am_xr s0 s0.heap (xa r) ty n (fun j => .int (am_A μ r j)))
theorem am_ad_ne {h0 : Nat} {xa : Nat → Nat} {r r' : Nat} (h : 16 ≤ r) (h' : 16 ≤ r') (hne : r' ≠ r) : am_ad h0 xa r' ≠ am_ad h0 xa r := by
  unfold am_ad
  rw [if_neg (by omega), if_neg (by omega)]
  omega
theorem am_ad_ge {h0 : Nat} {xa : Nat → Nat} {r : Nat} (h : 16 ≤ r) : h0 ≤ am_ad h0 xa r := by
  unfold am_ad
  rw [if_neg (by omega)]
  omega
section AMR
variable {s0 : State} {xa : Nat → Nat} {D : va_G} {cl : List vw_C} {μ : am_Mem} {H H' : Heap}
theorem am_arr.kept {a n : Nat} {ty : FieldType} {f : Nat → Value} (h : am_arr s0 H a ty n f) (hq : H'[a]? = H[a]?) : am_arr s0 H' a ty n f := by
  obtain ⟨cell, h1, h2⟩ := h
  exact ⟨cell, hq.trans h1, h2⟩
theorem am_arr.lt {a n : Nat} {ty : FieldType} {f : Nat → Value} (h : am_arr s0 H a ty n f) : a < H.size := by
  obtain ⟨cell, h1, -⟩ := h
  exact (Array.getElem?_eq_some_iff.mp h1).1
theorem am_arr.put {a n j : Nat} {ty : FieldType} {f : Nat → Value} {v : Value} {cell : Cell} (h1 : H[a]? = some cell) (h2 : s0.isArrayOf cell ty) (h3 : cell.vm ≠ .unknown) (h4 : cell.slots.size = n) (h5 : ∀ j, j < n → cell.slots[j]? = some (f j)) (hj : j < n) (hq : H'[a]? = some (cell.setSlot j v)) : am_arr s0 H' a ty n (fun i => if i = j then v else f i) := by
  refine ⟨_, hq, h2, h3, ?_, fun i hi => ?_⟩
  · show (cell.slots.setIfInBounds j v).size = n
    rw [Array.size_setIfInBounds]; exact h4
  · show (cell.slots.setIfInBounds j v)[i]? = some (if i = j then v else f i)
    by_cases hij : i = j
    · subst hij
      rw [if_pos rfl, Array.getElem?_setIfInBounds, if_pos rfl, if_pos (by rw [h4]; exact hi)]
    · rw [if_neg hij, Array.getElem?_setIfInBounds_ne (fun q => hij q.symm)]
      exact h5 i hi
/-- the old part stays -/
theorem am_Rep.old (hR : am_Rep s0 xa D cl μ H) {a : Nat} (ha : s0.heap.size ≤ a) (hz : H'.size = H.size) (ho : ∀ q, q ≠ a → H'[q]? = H[q]?) : H'.size + 16 = s0.heap.size + am_n μ ∧ ∀ q, q < s0.heap.size → H'[q]? = s0.heap[q]? := by
  obtain ⟨-, h2, h3, -⟩ := hR
  exact ⟨by rw [hz]; exact h2, fun q hq => (ho q (by omega)).trans (h3 q hq)⟩
theorem am_Rep.pA (hR : am_Rep s0 xa D cl μ H) {r t n j : Nat} {ty : FieldType} {x : Int32} (hk : am_kd μ r = (t, n)) (ht : am_aty t = some ty) (h6 : t ≠ 6) (hj : j < n) {cell : Cell} (hc : H[am_ad s0.heap.size xa r]? = some cell)
    (hq : H'[am_ad s0.heap.size xa r]? = some (cell.setSlot j (.int x))) (hz : H'.size = H.size) (ho : ∀ q, q ≠ am_ad s0.heap.size xa r → H'[q]? = H[q]?) : am_Rep s0 xa D cl (am_pA μ r j x) H' := by
  obtain ⟨hr16, cell', h1, h2, h3, h4, h5⟩ := hR.2.2.2.2.1 r t n ty hk ht
  cases Option.some.inj (hc.symm.trans h1)
  obtain ⟨e1, e2⟩ := hR.old (am_ad_ge (h0 := s0.heap.size) (xa := xa) hr16) hz ho
  obtain ⟨g1, -, -, g4, g5, g6⟩ := hR
  refine ⟨g1, e1, e2, fun r' ci hk' => ?_, fun r' t' n' ty' hk' ht' => ?_, fun r' t' n' ty' hk' hx' => ?_⟩
  · obtain ⟨z1, q, z2, z3⟩ := g4 r' ci hk'
    have hne : r' ≠ r := by
      rintro rfl
      have hk2 : am_kd μ r' = (1, ci) := hk'
      rw [hk] at hk2; cases hk2; cases ht
    refine ⟨z1, q, z2, (z3.kept (ho _ (am_ad_ne hr16 z1 hne))).to fun j _ => ?_⟩
    simp [am_O, am_pA, am_u2, am_u1, hne, am_A, am_L, am_F]
  · have hk2 : am_kd μ r' = (t', n') := hk'
    obtain ⟨z1, z2⟩ := g5 r' t' n' ty' hk2 ht'
    refine ⟨z1, ?_⟩
    by_cases hne : r' = r
    · subst hne
      rw [hk] at hk2; cases hk2
      cases ht.symm.trans ht'
      obtain ⟨cell9, p1, p2, p3, p4, p5⟩ := am_arr.put (s0 := s0) h1 h2 h3 h4 h5 hj hq
      refine ⟨cell9, p1, p2, p3, p4, fun i hi => ?_⟩
      rw [p5 i hi]
      by_cases hij : i = j
      · subst hij; simp [am_val, h6, am_pA, am_u2, am_A, am_L]
      · simp [am_val, h6, am_pA, am_u2, hij, am_A, am_L]
    · obtain ⟨cell9, p1, p2, p3, p4, p5⟩ := z2
      refine ⟨cell9, (ho _ (am_ad_ne hr16 z1 hne)).trans p1, p2, p3, p4, fun i hi => ?_⟩
      rw [p5 i hi]
      simp [am_val, am_pA, am_u2, hne, am_A, am_L]
  · obtain ⟨z1, z2, cell9, p1, p2, p3, p4, p5⟩ := g6 r' t' n' ty' hk' hx'
    refine ⟨z1, z2, cell9, p1, p2, p3, p4, fun i hi => ?_⟩
    rw [p5 i hi]
    have hne : r' ≠ r := by omega
    simp [am_pA, am_u2, hne, am_A, am_L]
theorem am_Rep.wA (hR : am_Rep s0 xa D cl μ H) {r t n : Nat} {ty : FieldType} {g : Nat → Int32} (hk : am_kd μ r = (t, n)) (ht : am_aty t = some ty) (h6 : t ≠ 6) (ha : am_arr s0 H' (am_ad s0.heap.size xa r) ty n (fun j => .int (g j))) (hz : H'.size = H.size) (ho : ∀ q, q ≠ am_ad s0.heap.size xa r → H'[q]? = H[q]?) : am_Rep s0 xa D cl (am_wA μ r g) H' := by
  obtain ⟨hr16, -⟩ := hR.2.2.2.2.1 r t n ty hk ht
  obtain ⟨e1, e2⟩ := hR.old (am_ad_ge (h0 := s0.heap.size) (xa := xa) hr16) hz ho
  obtain ⟨g1, -, -, g4, g5, g6⟩ := hR
  refine ⟨g1, e1, e2, fun r' ci hk' => ?_, fun r' t' n' ty' hk' ht' => ?_, fun r' t' n' ty' hk' hx' => ?_⟩
  · obtain ⟨z1, q, z2, z3⟩ := g4 r' ci hk'
    have hne : r' ≠ r := by
      rintro rfl
      have hk2 : am_kd μ r' = (1, ci) := hk'
      rw [hk] at hk2; cases hk2; cases ht
    refine ⟨z1, q, z2, (z3.kept (ho _ (am_ad_ne hr16 z1 hne))).to fun j _ => ?_⟩
    simp [am_O, am_wA, am_u2, am_u1, hne, am_A, am_L, am_F]
  · have hk2 : am_kd μ r' = (t', n') := hk'
    obtain ⟨z1, z2⟩ := g5 r' t' n' ty' hk2 ht'
    refine ⟨z1, ?_⟩
    by_cases hne : r' = r
    · subst hne
      rw [hk] at hk2; cases hk2
      cases ht.symm.trans ht'
      obtain ⟨cell9, p1, p2, p3, p4, p5⟩ := ha
      refine ⟨cell9, p1, p2, p3, p4, fun i hi => ?_⟩
      rw [p5 i hi]
      simp [am_val, h6, am_wA, am_u1, am_A]
    · obtain ⟨cell9, p1, p2, p3, p4, p5⟩ := z2
      refine ⟨cell9, (ho _ (am_ad_ne hr16 z1 hne)).trans p1, p2, p3, p4, fun i hi => ?_⟩
      rw [p5 i hi]
      simp [am_val, am_wA, am_u1, hne, am_A, am_L]
  · obtain ⟨z1, z2, cell9, p1, p2, p3, p4, p5⟩ := g6 r' t' n' ty' hk' hx'
    refine ⟨z1, z2, cell9, p1, p2, p3, p4, fun i hi => ?_⟩
    rw [p5 i hi]
    have hne : r' ≠ r := by omega
    simp [am_wA, am_u1, hne, am_A]
theorem am_Rep.pL (hR : am_Rep s0 xa D cl μ H) {r n j : Nat} {x : Int64} (hk : am_kd μ r = (6, n)) (hj : j < n) {cell : Cell} (hc : H[am_ad s0.heap.size xa r]? = some cell)
    (hq : H'[am_ad s0.heap.size xa r]? = some (cell.setSlot j (.long x))) (hz : H'.size = H.size) (ho : ∀ q, q ≠ am_ad s0.heap.size xa r → H'[q]? = H[q]?) : am_Rep s0 xa D cl (am_pL μ r j x) H' := by
  obtain ⟨hr16, cell', h1, h2, h3, h4, h5⟩ := hR.2.2.2.2.1 r 6 n .long hk rfl
  cases Option.some.inj (hc.symm.trans h1)
  obtain ⟨e1, e2⟩ := hR.old (am_ad_ge (h0 := s0.heap.size) (xa := xa) hr16) hz ho
  obtain ⟨g1, -, -, g4, g5, g6⟩ := hR
  refine ⟨g1, e1, e2, fun r' ci hk' => ?_, fun r' t' n' ty' hk' ht' => ?_, fun r' t' n' ty' hk' hx' => ?_⟩
  · obtain ⟨z1, q, z2, z3⟩ := g4 r' ci hk'
    have hne : r' ≠ r := by
      rintro rfl
      have hk2 : am_kd μ r' = (1, ci) := hk'
      rw [hk] at hk2; cases hk2
    refine ⟨z1, q, z2, (z3.kept (ho _ (am_ad_ne hr16 z1 hne))).to fun j _ => ?_⟩
    simp [am_O, am_pL, am_u2, am_u1, hne, am_A, am_L, am_F]
  · have hk2 : am_kd μ r' = (t', n') := hk'
    obtain ⟨z1, z2⟩ := g5 r' t' n' ty' hk2 ht'
    refine ⟨z1, ?_⟩
    by_cases hne : r' = r
    · subst hne
      rw [hk] at hk2; cases hk2
      cases (show am_aty 6 = some .long from rfl).symm.trans ht'
      obtain ⟨cell9, p1, p2, p3, p4, p5⟩ := am_arr.put (s0 := s0) h1 h2 h3 h4 h5 hj hq
      refine ⟨cell9, p1, p2, p3, p4, fun i hi => ?_⟩
      rw [p5 i hi]
      by_cases hij : i = j
      · subst hij; simp [am_val, am_pL, am_u2, am_A, am_L]
      · simp [am_val, am_pL, am_u2, hij, am_A, am_L]
    · obtain ⟨cell9, p1, p2, p3, p4, p5⟩ := z2
      refine ⟨cell9, (ho _ (am_ad_ne hr16 z1 hne)).trans p1, p2, p3, p4, fun i hi => ?_⟩
      rw [p5 i hi]
      simp [am_val, am_pL, am_u2, hne, am_A, am_L]
  · exact g6 r' t' n' ty' hk' hx'
theorem am_pO_kd (μ : am_Mem) (r f : Nat) (v : Value) : am_kd (am_pO μ r f v) = am_kd μ := by cases v <;> rfl
theorem am_pO_n (μ : am_Mem) (r f : Nat) (v : Value) : am_n (am_pO μ r f v) = am_n μ ∧ am_sl (am_pO μ r f v) = am_sl μ := by cases v <;> exact ⟨rfl, rfl⟩
theorem am_pO_ne {μ : am_Mem} {r f r' : Nat} {v : Value} (h : r' ≠ r) (j : Nat) : am_A (am_pO μ r f v) r' j = am_A μ r' j ∧ am_L (am_pO μ r f v) r' j = am_L μ r' j ∧ am_F (am_pO μ r f v) r' j = am_F μ r' j := by
  cases v <;> simp [am_pO, am_pA, am_pL, am_pR, am_u2, h, am_A, am_L, am_F]
theorem am_pO_nej {μ : am_Mem} {r f j : Nat} {v : Value} (h : j ≠ f) : am_A (am_pO μ r f v) r j = am_A μ r j ∧ am_L (am_pO μ r f v) r j = am_L μ r j ∧ am_F (am_pO μ r f v) r j = am_F μ r j := by
  cases v <;> simp [am_pO, am_pA, am_pL, am_pR, am_u2, h, am_A, am_L, am_F]
theorem am_pO_at {μ : am_Mem} {r f ci : Nat} {v : Value} (hk : am_kd μ r = (1, ci)) (hf : fits (am_ty ci f) v = true) (hv : am_vk v = true) : am_O (am_pO μ r f v) r f = v := by
  unfold am_O
  rw [am_pO_kd, hk]
  show am_fv (am_ty ci f) _ _ _ = v
  generalize am_ty ci f = ty at hf
  cases v with
  | int x => cases ty <;> first | (simp [am_fv, am_tk, am_pO, am_pA, am_u2, am_A]; done) | cases hf
  | long x => cases ty <;> first | (simp [am_fv, am_tk, am_pO, am_pL, am_u2, am_L]; done) | cases hf
  | ref x =>
    have hx : ¬ x = 15 := by simpa [am_vk] using hv
    cases ty <;> first | (simp [am_fv, am_tk, am_pO, am_pR, am_u2, am_F, hx]; done) | cases hf
  | _ => cases hv
theorem am_Rep.pO (hR : am_Rep s0 xa D cl μ H) {r ci f : Nat} {v : Value} {q : vw_C} (hk : am_kd μ r = (1, ci)) (hc : cl[ci]? = some q) (hf : fits (am_ty ci f) v = true) (hv : am_vk v = true)
    (hb : t_OB (am_ad s0.heap.size xa r) (D.1 ci) q.2.2 (D.2 ci) H' (updV (fun j => am_cv s0.heap.size xa (am_O μ r j)) f (am_cv s0.heap.size xa v))) (hz : H'.size = H.size) (ho : ∀ q, q ≠ am_ad s0.heap.size xa r → H'[q]? = H[q]?) : am_Rep s0 xa D cl (am_pO μ r f v) H' := by
  obtain ⟨hr16, -⟩ := hR.2.2.2.1 r ci hk
  obtain ⟨e1, e2⟩ := hR.old (am_ad_ge (h0 := s0.heap.size) (xa := xa) hr16) hz ho
  obtain ⟨g1, -, -, g4, g5, g6⟩ := hR
  refine ⟨by rw [(am_pO_n μ r f v).1]; exact g1, by rw [(am_pO_n μ r f v).1]; exact e1, e2, fun r' ci' hk' => ?_, fun r' t' n' ty' hk' ht' => ?_, fun r' t' n' ty' hk' hx' => ?_⟩
  · have hk2 : am_kd μ r' = (1, ci') := by rw [am_pO_kd] at hk'; exact hk'
    obtain ⟨z1, q', z2, z3⟩ := g4 r' ci' hk2
    refine ⟨z1, q', z2, ?_⟩
    by_cases hne : r' = r
    · subst hne
      rw [hk] at hk2; cases hk2
      cases Option.some.inj (hc.symm.trans z2)
      refine hb.to fun j _ => ?_
      by_cases hj : j = f
      · subst hj
        rw [am_pO_at hk hf hv]
        simp [updV]
      · obtain ⟨w1, w2, w3⟩ := am_pO_nej (μ := μ) (r := r') (v := v) hj
        have : am_O (am_pO μ r' f v) r' j = am_O μ r' j := by
          unfold am_O
          rw [am_pO_kd, w1, w2, w3]
        rw [this]
        simp [updV, hj]
    · refine (z3.kept (ho _ (am_ad_ne hr16 z1 hne))).to fun j _ => ?_
      obtain ⟨w1, w2, w3⟩ := am_pO_ne (μ := μ) (f := f) (v := v) hne j
      have : am_O (am_pO μ r f v) r' j = am_O μ r' j := by
        unfold am_O
        rw [am_pO_kd, w1, w2, w3]
      rw [this]
  · have hk2 : am_kd μ r' = (t', n') := by rw [am_pO_kd] at hk'; exact hk'
    obtain ⟨z1, z2⟩ := g5 r' t' n' ty' hk2 ht'
    have hne : r' ≠ r := by
      rintro rfl
      rw [hk] at hk2; cases hk2; cases ht'
    refine ⟨z1, ?_⟩
    obtain ⟨cell9, p1, p2, p3, p4, p5⟩ := z2.kept (H' := H') (ho _ (am_ad_ne hr16 z1 hne))
    refine ⟨cell9, p1, p2, p3, p4, fun i hi => ?_⟩
    rw [p5 i hi]
    obtain ⟨w1, w2, w3⟩ := am_pO_ne (μ := μ) (f := f) (v := v) hne i
    unfold am_val
    rw [w1, w2]
  · have hk2 : am_kd μ r' = (t', n') := by rw [am_pO_kd] at hk'; exact hk'
    obtain ⟨z1, z2, cell9, p1, p2, p3, p4, p5⟩ := g6 r' t' n' ty' hk2 hx'
    refine ⟨z1, z2, cell9, p1, p2, p3, p4, fun i hi => ?_⟩
    rw [p5 i hi]
    have hne : r' ≠ r := by omega
    show some (Value.int (am_A μ r' i)) = some (Value.int (am_A (am_pO μ r f v) r' i))
    rw [(am_pO_ne (μ := μ) (f := f) (v := v) hne i).1]
/-- a new cell lies at the end -/
theorem am_ad_n (hR : am_Rep s0 xa D cl μ H) : am_ad s0.heap.size xa (am_n μ) = H.size := by
  obtain ⟨h1, h2, -⟩ := hR
  unfold am_ad
  rw [if_neg (by omega)]
  omega
theorem am_Rep.fresh (hR : am_Rep s0 xa D cl μ H) : ∀ r, 16 ≤ r → am_ad s0.heap.size xa r < H.size → r ≠ am_n μ := by
  rintro r - hl rfl
  rw [am_ad_n hR] at hl
  omega
theorem am_Rep.nA (hR : am_Rep s0 xa D cl μ H) {t N : Nat} {ty : FieldType} (ht : am_aty t = some ty) (hz : H'.size = H.size + 1) (ho : ∀ q, q < H.size → H'[q]? = H[q]?)
    (ha : am_arr s0 H' H.size ty N (fun _ => if t = 6 then .long 0 else .int 0)) : am_Rep s0 xa D cl (am_nA μ t N) H' := by
  have hn := am_ad_n hR
  have hfr := hR.fresh
  obtain ⟨g1, g2, g3, g4, g5, g6⟩ := hR
  refine ⟨Nat.le_succ_of_le g1, ?_, fun q hq => (ho q (by omega)).trans (g3 q hq), fun r' ci' hk' => ?_, fun r' t' n' ty' hk' ht' => ?_, fun r' t' n' ty' hk' hx' => ?_⟩
  · show H'.size + 16 = s0.heap.size + (am_n μ + 1)
    omega
  · have hk2 : am_u1 (am_kd μ) (am_n μ) (t, N) r' = (1, ci') := hk'
    unfold am_u1 at hk2
    by_cases hne : r' = am_n μ
    · rw [if_pos hne] at hk2; cases hk2; cases ht
    · rw [if_neg hne] at hk2
      obtain ⟨z1, q', z2, z3⟩ := g4 r' ci' hk2
      refine ⟨z1, q', z2, (z3.kept (ho _ ?_)).to fun j _ => ?_⟩
      · obtain ⟨c9, c1, -⟩ := z3
        exact (Array.getElem?_eq_some_iff.mp c1).1
      · simp [am_O, am_nA, am_u1, hne, am_A, am_L, am_F, am_kd]
  · have hk2 : am_u1 (am_kd μ) (am_n μ) (t, N) r' = (t', n') := hk'
    unfold am_u1 at hk2
    by_cases hne : r' = am_n μ
    · rw [if_pos hne] at hk2; cases hk2
      cases ht.symm.trans ht'
      subst hne
      refine ⟨g1, ?_⟩
      rw [hn]
      obtain ⟨cell9, p1, p2, p3, p4, p5⟩ := ha
      refine ⟨cell9, p1, p2, p3, p4, fun i hi => ?_⟩
      rw [p5 i hi]
      simp [am_val, am_nA, am_u1, am_A, am_L]
    · rw [if_neg hne] at hk2
      obtain ⟨z1, z2⟩ := g5 r' t' n' ty' hk2 ht'
      refine ⟨z1, ?_⟩
      obtain ⟨cell9, p1, p2, p3, p4, p5⟩ := z2.kept (H' := H') (ho _ z2.lt)
      refine ⟨cell9, p1, p2, p3, p4, fun i hi => ?_⟩
      rw [p5 i hi]
      simp [am_val, am_nA, am_u1, hne, am_A, am_L]
  · have hk2 : am_u1 (am_kd μ) (am_n μ) (t, N) r' = (t', n') := hk'
    unfold am_u1 at hk2
    by_cases hne : r' = am_n μ
    · rw [if_pos hne] at hk2; cases hk2; exact (am_axt ht hx').elim
    · rw [if_neg hne] at hk2
      obtain ⟨z1, z2, cell9, p1, p2, p3, p4, p5⟩ := g6 r' t' n' ty' hk2 hx'
      refine ⟨z1, z2, cell9, p1, p2, p3, p4, fun i hi => ?_⟩
      rw [p5 i hi]
      simp [am_nA, am_u1, hne, am_A, am_L]
theorem am_Rep.nO (hR : am_Rep s0 xa D cl μ H) {ci N : Nat} {q : vw_C} (hc : cl[ci]? = some q) (hz : H'.size = H.size + 1) (ho : ∀ q, q < H.size → H'[q]? = H[q]?)
    (hb : t_OB H.size (D.1 ci) q.2.2 (D.2 ci) H' (fun j => defaultValue (am_ty ci j))) : am_Rep s0 xa D cl (am_nO μ ci N) H' := by
  have hn := am_ad_n hR
  obtain ⟨g1, g2, g3, g4, g5, g6⟩ := hR
  refine ⟨Nat.le_succ_of_le g1, ?_, fun q hq => (ho q (by omega)).trans (g3 q hq), fun r' ci' hk' => ?_, fun r' t' n' ty' hk' ht' => ?_, fun r' t' n' ty' hk' hx' => ?_⟩
  · show H'.size + 16 = s0.heap.size + (am_n μ + 1)
    omega
  · have hk2 : am_u1 (am_kd μ) (am_n μ) (1, ci) r' = (1, ci') := hk'
    unfold am_u1 at hk2
    by_cases hne : r' = am_n μ
    · rw [if_pos hne] at hk2; cases hk2
      subst hne
      refine ⟨g1, q, hc, ?_⟩
      rw [hn]
      refine hb.to fun j _ => ?_
      have e : am_O (am_nO μ ci N) (am_n μ) j = am_fv (am_ty ci j) 0 0 15 := by simp [am_O, am_nO, am_u1, am_A, am_L, am_F, am_kd]
      rw [e]
      cases am_ty ci j <;> rfl
    · rw [if_neg hne] at hk2
      obtain ⟨z1, q', z2, z3⟩ := g4 r' ci' hk2
      refine ⟨z1, q', z2, (z3.kept (ho _ ?_)).to fun j _ => ?_⟩
      · obtain ⟨c9, c1, -⟩ := z3
        exact (Array.getElem?_eq_some_iff.mp c1).1
      · simp [am_O, am_nO, am_u1, hne, am_A, am_L, am_F, am_kd]
  · have hk2 : am_u1 (am_kd μ) (am_n μ) (1, ci) r' = (t', n') := hk'
    unfold am_u1 at hk2
    by_cases hne : r' = am_n μ
    · rw [if_pos hne] at hk2; cases hk2; cases ht'
    · rw [if_neg hne] at hk2
      obtain ⟨z1, z2⟩ := g5 r' t' n' ty' hk2 ht'
      refine ⟨z1, ?_⟩
      obtain ⟨cell9, p1, p2, p3, p4, p5⟩ := z2.kept (H' := H') (ho _ z2.lt)
      refine ⟨cell9, p1, p2, p3, p4, fun i hi => ?_⟩
      rw [p5 i hi]
      simp [am_val, am_nO, am_u1, hne, am_A, am_L]
  · have hk2 : am_u1 (am_kd μ) (am_n μ) (1, ci) r' = (t', n') := hk'
    unfold am_u1 at hk2
    by_cases hne : r' = am_n μ
    · rw [if_pos hne] at hk2; cases hk2; cases hx'
    · rw [if_neg hne] at hk2
      obtain ⟨z1, z2, cell9, p1, p2, p3, p4, p5⟩ := g6 r' t' n' ty' hk2 hx'
      refine ⟨z1, z2, cell9, p1, p2, p3, p4, fun i hi => ?_⟩
      rw [p5 i hi]
      simp [am_nO, am_u1, hne, am_A]
theorem am_Rep.nX (hR : am_Rep s0 xa D cl μ H) (hz : H'.size = H.size + 1) (ho : ∀ q, q < H.size → H'[q]? = H[q]?) : am_Rep s0 xa D cl (am_nX μ) H' := by
  obtain ⟨g1, g2, g3, g4, g5, g6⟩ := hR
  refine ⟨Nat.le_succ_of_le g1, ?_, fun q hq => (ho q (by omega)).trans (g3 q hq), fun r' ci' hk' => ?_, fun r' t' n' ty' hk' ht' => ?_, fun r' t' n' ty' hk' hx' => g6 r' t' n' ty' hk' hx'⟩
  · show H'.size + 16 = s0.heap.size + (am_n μ + 1)
    omega
  · obtain ⟨z1, q', z2, z3⟩ := g4 r' ci' hk'
    refine ⟨z1, q', z2, z3.kept (ho _ ?_)⟩
    obtain ⟨c9, c1, -⟩ := z3
    exact (Array.getElem?_eq_some_iff.mp c1).1
  · obtain ⟨z1, z2⟩ := g5 r' t' n' ty' hk' ht'
    exact ⟨z1, z2.kept (H' := H') (ho _ z2.lt)⟩
end AMR
