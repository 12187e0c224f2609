/-! ===== printed: the tables are as the words have them ===== -/
theorem am_lk_mem {α : Type} : ∀ {l : List (Nat × α)} {x : Nat} {v : α}, am_lk l x = some v → (x, v) ∈ l := by
  intro l
  induction l with
  | nil => intro x v h; cases h
  | cons q l ih =>
    intro x v h
    unfold am_lk at h
    cases hb : Nat.beq q.1 x with
    | true =>
      rw [hb] at h
      have e := Nat.eq_of_beq_eq_true hb
      cases h
      rw [← e]
      exact List.mem_cons_self
    | false =>
      rw [hb] at h
      exact List.mem_cons_of_mem _ (ih h)
theorem am_lk2_mem {α : Type} {L : List (Nat × List (Nat × α))} {a b : Nat} {v : α} (h : am_lk2 L a b = some v) {P : Nat → Nat → α → Prop} (hP : ∀ e ∈ L, ∀ q ∈ e.2, P e.1 q.1 q.2) : P a b v := by
  unfold am_lk2 at h
  split at h
  · rename_i l hl
    exact hP _ (am_lk_mem hl) _ (am_lk_mem h)
  · cases h
theorem am_nth_mem {α : Type} : ∀ {l : List α} {n : Nat} {v : α}, am_nth l n = some v → v ∈ l := by
  intro l
  induction l with
  | nil => intro n v h; cases h
  | cons a l ih =>
    intro n v h
    cases n with
    | zero => cases h; exact List.mem_cons_self
    | succ n => exact List.mem_cons_of_mem _ (ih h)
def am_T1 : List Cond := Cond.code x code maxLocals ret :: lw_tbl
def am_T0 : List Cond := am_T1.filter goodWord
def am_Tn : List Cond := lw_tbl.filter am_stab
theorem am_inT {w : Cond} (h : w ∈ tables_1) (g : goodWord w = true) : w ∈ am_T0 := List.mem_filter.mpr ⟨List.mem_cons_of_mem _ (List.mem_append_right _ h), g⟩
theorem am_inS {w : Cond} (h : w ∈ k2_sels lw_privs) (g : goodWord w = true) : w ∈ am_T0 := List.mem_filter.mpr ⟨List.mem_cons_of_mem _ (List.mem_append_left _ h), g⟩
theorem am_inN {w : Cond} (h : w ∈ tables_1) (g : am_stab w = true) : w ∈ am_Tn := List.mem_filter.mpr ⟨List.mem_append_right _ h, g⟩
theorem am_t1 {w : Cond} (i : Nat) (h : tables_1_1[i]? = some w) : w ∈ tables_1 := by
  have h := List.mem_of_getElem? h
  exact List.mem_append_left _ h
theorem am_t2 {w : Cond} (i : Nat) (h : tables_1_2[i]? = some w) : w ∈ tables_1 := by
  have h := List.mem_of_getElem? h
  exact List.mem_append_right _ (List.mem_append_left _ h)
theorem am_t3 {w : Cond} (i : Nat) (h : tables_1_3[i]? = some w) : w ∈ tables_1 := by
  have h := List.mem_of_getElem? h
  exact List.mem_append_right _ (List.mem_append_right _ (List.mem_append_left _ h))
theorem am_t4 {w : Cond} (i : Nat) (h : tables_1_4[i]? = some w) : w ∈ tables_1 := by
  have h := List.mem_of_getElem? h
  exact List.mem_append_right _ (List.mem_append_right _ (List.mem_append_right _ (List.mem_append_left _ h)))
theorem am_t5 {w : Cond} (i : Nat) (h : tables_1_5[i]? = some w) : w ∈ tables_1 := by
  have h := List.mem_of_getElem? h
  exact List.mem_append_right _ (List.mem_append_right _ (List.mem_append_right _ (List.mem_append_right _ (List.mem_append_left _ h))))
theorem am_t6 {w : Cond} (i : Nat) (h : tables_1_6[i]? = some w) : w ∈ tables_1 := by
  have h := List.mem_of_getElem? h
  exact List.mem_append_right _ (List.mem_append_right _ (List.mem_append_right _ (List.mem_append_right _ (List.mem_append_right _ (List.mem_append_left _ h)))))
theorem am_t7 {w : Cond} (i : Nat) (h : tables_1_7[i]? = some w) : w ∈ tables_1 := by
  have h := List.mem_of_getElem? h
  exact List.mem_append_right _ (List.mem_append_right _ (List.mem_append_right _ (List.mem_append_right _ (List.mem_append_right _ (List.mem_append_right _ (List.mem_append_left _ h))))))
theorem am_t8 {w : Cond} (i : Nat) (h : tables_1_8[i]? = some w) : w ∈ tables_1 := by
  have h := List.mem_of_getElem? h
  exact List.mem_append_right _ (List.mem_append_right _ (List.mem_append_right _ (List.mem_append_right _ (List.mem_append_right _ (List.mem_append_right _ (List.mem_append_right _ (List.mem_append_left _ h)))))))
theorem am_t9 {w : Cond} (i : Nat) (h : tables_1_9[i]? = some w) : w ∈ tables_1 := by
  have h := List.mem_of_getElem? h
  exact List.mem_append_right _ (List.mem_append_right _ (List.mem_append_right _ (List.mem_append_right _ (List.mem_append_right _ (List.mem_append_right _ (List.mem_append_right _ (List.mem_append_right _ (List.mem_append_left _ h))))))))
theorem am_t10 {w : Cond} (i : Nat) (h : tables_1_10[i]? = some w) : w ∈ tables_1 := by
  have h := List.mem_of_getElem? h
  exact List.mem_append_right _ (List.mem_append_right _ (List.mem_append_right _ (List.mem_append_right _ (List.mem_append_right _ (List.mem_append_right _ (List.mem_append_right _ (List.mem_append_right _ (List.mem_append_right _ (h)))))))))
def am_pF (oc ix ci f : Nat) : Prop := ∃ C T N, am_cls[ci]? = some (C, T, N) ∧ f < N ∧ ((Cond.fieldLink (am_cn oc) ix (T f).1 (T f).2.1 (T f).2.2.1) ∈ am_T0 ∨ (¬ ci = oc ∧ ∃ h, (Cond.fieldLinkNest (am_cn oc) ix (T f).1 (T f).2.1 (T f).2.2.1 h) ∈ am_Tn))
theorem am_okF0_0 : am_pF 0 (((9, (0, 0)) : Nat × (Nat × Nat))).1 (((9, (0, 0)) : Nat × (Nat × Nat))).2.1 (((9, (0, 0)) : Nat × (Nat × Nat))).2.2 := ⟨RX0, TX0, 7, rfl, by decide, Or.inl (am_inT (am_t2 37 rfl) rfl)⟩
theorem am_okF0_1 : am_pF 0 (((15, (0, 2)) : Nat × (Nat × Nat))).1 (((15, (0, 2)) : Nat × (Nat × Nat))).2.1 (((15, (0, 2)) : Nat × (Nat × Nat))).2.2 := ⟨RX0, TX0, 7, rfl, by decide, Or.inl (am_inT (am_t2 40 rfl) rfl)⟩
theorem am_okF0_2 : am_pF 0 (((19, (0, 3)) : Nat × (Nat × Nat))).1 (((19, (0, 3)) : Nat × (Nat × Nat))).2.1 (((19, (0, 3)) : Nat × (Nat × Nat))).2.2 := ⟨RX0, TX0, 7, rfl, by decide, Or.inl (am_inT (am_t2 41 rfl) rfl)⟩
theorem am_okF0_3 : am_pF 0 (((22, (0, 4)) : Nat × (Nat × Nat))).1 (((22, (0, 4)) : Nat × (Nat × Nat))).2.1 (((22, (0, 4)) : Nat × (Nat × Nat))).2.2 := ⟨RX0, TX0, 7, rfl, by decide, Or.inl (am_inT (am_t2 42 rfl) rfl)⟩
theorem am_okF0_4 : am_pF 0 (((25, (0, 5)) : Nat × (Nat × Nat))).1 (((25, (0, 5)) : Nat × (Nat × Nat))).2.1 (((25, (0, 5)) : Nat × (Nat × Nat))).2.2 := ⟨RX0, TX0, 7, rfl, by decide, Or.inl (am_inT (am_t2 43 rfl) rfl)⟩
theorem am_okF0_5 : am_pF 0 (((29, (0, 6)) : Nat × (Nat × Nat))).1 (((29, (0, 6)) : Nat × (Nat × Nat))).2.1 (((29, (0, 6)) : Nat × (Nat × Nat))).2.2 := ⟨RX0, TX0, 7, rfl, by decide, Or.inl (am_inT (am_t2 44 rfl) rfl)⟩
theorem am_okF0_6 : am_pF 0 (((33, (0, 1)) : Nat × (Nat × Nat))).1 (((33, (0, 1)) : Nat × (Nat × Nat))).2.1 (((33, (0, 1)) : Nat × (Nat × Nat))).2.2 := ⟨RX0, TX0, 7, rfl, by decide, Or.inl (am_inT (am_t2 39 rfl) rfl)⟩
theorem am_okF0_7 : am_pF 0 (((62, (5, 1)) : Nat × (Nat × Nat))).1 (((62, (5, 1)) : Nat × (Nat × Nat))).2.1 (((62, (5, 1)) : Nat × (Nat × Nat))).2.2 := ⟨RX5, TX5, 19, rfl, by decide, Or.inl (am_inT (am_t1 156 rfl) rfl)⟩
theorem am_okF0_8 : am_pF 0 (((67, (5, 7)) : Nat × (Nat × Nat))).1 (((67, (5, 7)) : Nat × (Nat × Nat))).2.1 (((67, (5, 7)) : Nat × (Nat × Nat))).2.2 := ⟨RX5, TX5, 19, rfl, by decide, Or.inl (am_inT (am_t1 171 rfl) rfl)⟩
theorem am_okF0_9 : am_pF 0 (((92, (5, 13)) : Nat × (Nat × Nat))).1 (((92, (5, 13)) : Nat × (Nat × Nat))).2.1 (((92, (5, 13)) : Nat × (Nat × Nat))).2.2 := ⟨RX5, TX5, 19, rfl, by decide, Or.inl (am_inT (am_t1 190 rfl) rfl)⟩
theorem am_okF0_10 : am_pF 0 (((99, (5, 9)) : Nat × (Nat × Nat))).1 (((99, (5, 9)) : Nat × (Nat × Nat))).2.1 (((99, (5, 9)) : Nat × (Nat × Nat))).2.2 := ⟨RX5, TX5, 19, rfl, by decide, Or.inl (am_inT (am_t1 177 rfl) rfl)⟩
theorem am_okF0_11 : am_pF 0 (((102, (5, 12)) : Nat × (Nat × Nat))).1 (((102, (5, 12)) : Nat × (Nat × Nat))).2.1 (((102, (5, 12)) : Nat × (Nat × Nat))).2.2 := ⟨RX5, TX5, 19, rfl, by decide, Or.inl (am_inT (am_t1 185 rfl) rfl)⟩
theorem am_okF0_12 : am_pF 0 (((105, (5, 2)) : Nat × (Nat × Nat))).1 (((105, (5, 2)) : Nat × (Nat × Nat))).2.1 (((105, (5, 2)) : Nat × (Nat × Nat))).2.2 := ⟨RX5, TX5, 19, rfl, by decide, Or.inl (am_inT (am_t1 159 rfl) rfl)⟩
theorem am_okF0_13 : am_pF 0 (((112, (5, 5)) : Nat × (Nat × Nat))).1 (((112, (5, 5)) : Nat × (Nat × Nat))).2.1 (((112, (5, 5)) : Nat × (Nat × Nat))).2.2 := ⟨RX5, TX5, 19, rfl, by decide, Or.inl (am_inT (am_t1 167 rfl) rfl)⟩
theorem am_okF0_14 : am_pF 0 (((141, (5, 3)) : Nat × (Nat × Nat))).1 (((141, (5, 3)) : Nat × (Nat × Nat))).2.1 (((141, (5, 3)) : Nat × (Nat × Nat))).2.2 := ⟨RX5, TX5, 19, rfl, by decide, Or.inl (am_inT (am_t1 162 rfl) rfl)⟩
theorem am_okF0_15 : am_pF 0 (((153, (5, 17)) : Nat × (Nat × Nat))).1 (((153, (5, 17)) : Nat × (Nat × Nat))).2.1 (((153, (5, 17)) : Nat × (Nat × Nat))).2.2 := ⟨RX5, TX5, 19, rfl, by decide, Or.inl (am_inT (am_t1 203 rfl) rfl)⟩
theorem am_okF0_16 : am_pF 0 (((156, (5, 15)) : Nat × (Nat × Nat))).1 (((156, (5, 15)) : Nat × (Nat × Nat))).2.1 (((156, (5, 15)) : Nat × (Nat × Nat))).2.2 := ⟨RX5, TX5, 19, rfl, by decide, Or.inl (am_inT (am_t1 197 rfl) rfl)⟩
theorem am_okF0_17 : am_pF 0 (((159, (5, 18)) : Nat × (Nat × Nat))).1 (((159, (5, 18)) : Nat × (Nat × Nat))).2.1 (((159, (5, 18)) : Nat × (Nat × Nat))).2.2 := ⟨RX5, TX5, 19, rfl, by decide, Or.inl (am_inT (am_t1 206 rfl) rfl)⟩
theorem am_okF0_18 : am_pF 0 (((169, (5, 10)) : Nat × (Nat × Nat))).1 (((169, (5, 10)) : Nat × (Nat × Nat))).2.1 (((169, (5, 10)) : Nat × (Nat × Nat))).2.2 := ⟨RX5, TX5, 19, rfl, by decide, Or.inl (am_inT (am_t1 181 rfl) rfl)⟩
theorem am_okF0_19 : am_pF 0 (((184, (5, 16)) : Nat × (Nat × Nat))).1 (((184, (5, 16)) : Nat × (Nat × Nat))).2.1 (((184, (5, 16)) : Nat × (Nat × Nat))).2.2 := ⟨RX5, TX5, 19, rfl, by decide, Or.inl (am_inT (am_t1 200 rfl) rfl)⟩
theorem am_okF0_20 : am_pF 0 (((193, (5, 14)) : Nat × (Nat × Nat))).1 (((193, (5, 14)) : Nat × (Nat × Nat))).2.1 (((193, (5, 14)) : Nat × (Nat × Nat))).2.2 := ⟨RX5, TX5, 19, rfl, by decide, Or.inl (am_inT (am_t1 194 rfl) rfl)⟩
theorem am_okF0 : ∀ q ∈ am_tf_0, am_pF 0 (q).1 (q).2.1 (q).2.2 := by
  unfold am_tf_0
  exact List.forall_mem_cons.mpr ⟨am_okF0_0, List.forall_mem_cons.mpr ⟨am_okF0_1, List.forall_mem_cons.mpr ⟨am_okF0_2, List.forall_mem_cons.mpr ⟨am_okF0_3, List.forall_mem_cons.mpr ⟨am_okF0_4, List.forall_mem_cons.mpr ⟨am_okF0_5, List.forall_mem_cons.mpr ⟨am_okF0_6, List.forall_mem_cons.mpr ⟨am_okF0_7, List.forall_mem_cons.mpr ⟨am_okF0_8, List.forall_mem_cons.mpr ⟨am_okF0_9, List.forall_mem_cons.mpr ⟨am_okF0_10, List.forall_mem_cons.mpr ⟨am_okF0_11, List.forall_mem_cons.mpr ⟨am_okF0_12, List.forall_mem_cons.mpr ⟨am_okF0_13, List.forall_mem_cons.mpr ⟨am_okF0_14, List.forall_mem_cons.mpr ⟨am_okF0_15, List.forall_mem_cons.mpr ⟨am_okF0_16, List.forall_mem_cons.mpr ⟨am_okF0_17, List.forall_mem_cons.mpr ⟨am_okF0_18, List.forall_mem_cons.mpr ⟨am_okF0_19, List.forall_mem_cons.mpr ⟨am_okF0_20, (fun _ h => nomatch h)⟩⟩⟩⟩⟩⟩⟩⟩⟩⟩⟩⟩⟩⟩⟩⟩⟩⟩⟩⟩⟩
theorem am_okF1_0 : am_pF 1 (((9, (1, 0)) : Nat × (Nat × Nat))).1 (((9, (1, 0)) : Nat × (Nat × Nat))).2.1 (((9, (1, 0)) : Nat × (Nat × Nat))).2.2 := ⟨RX1, TX1, 9, rfl, by decide, Or.inl (am_inT (am_t2 74 rfl) rfl)⟩
theorem am_okF1_1 : am_pF 1 (((15, (1, 1)) : Nat × (Nat × Nat))).1 (((15, (1, 1)) : Nat × (Nat × Nat))).2.1 (((15, (1, 1)) : Nat × (Nat × Nat))).2.2 := ⟨RX1, TX1, 9, rfl, by decide, Or.inl (am_inT (am_t2 76 rfl) rfl)⟩
theorem am_okF1_2 : am_pF 1 (((18, (1, 2)) : Nat × (Nat × Nat))).1 (((18, (1, 2)) : Nat × (Nat × Nat))).2.1 (((18, (1, 2)) : Nat × (Nat × Nat))).2.2 := ⟨RX1, TX1, 9, rfl, by decide, Or.inl (am_inT (am_t2 79 rfl) rfl)⟩
theorem am_okF1_3 : am_pF 1 (((21, (1, 3)) : Nat × (Nat × Nat))).1 (((21, (1, 3)) : Nat × (Nat × Nat))).2.1 (((21, (1, 3)) : Nat × (Nat × Nat))).2.2 := ⟨RX1, TX1, 9, rfl, by decide, Or.inl (am_inT (am_t2 82 rfl) rfl)⟩
theorem am_okF1_4 : am_pF 1 (((24, (1, 4)) : Nat × (Nat × Nat))).1 (((24, (1, 4)) : Nat × (Nat × Nat))).2.1 (((24, (1, 4)) : Nat × (Nat × Nat))).2.2 := ⟨RX1, TX1, 9, rfl, by decide, Or.inl (am_inT (am_t2 83 rfl) rfl)⟩
theorem am_okF1_5 : am_pF 1 (((27, (1, 5)) : Nat × (Nat × Nat))).1 (((27, (1, 5)) : Nat × (Nat × Nat))).2.1 (((27, (1, 5)) : Nat × (Nat × Nat))).2.2 := ⟨RX1, TX1, 9, rfl, by decide, Or.inl (am_inT (am_t2 84 rfl) rfl)⟩
theorem am_okF1_6 : am_pF 1 (((30, (1, 6)) : Nat × (Nat × Nat))).1 (((30, (1, 6)) : Nat × (Nat × Nat))).2.1 (((30, (1, 6)) : Nat × (Nat × Nat))).2.2 := ⟨RX1, TX1, 9, rfl, by decide, Or.inl (am_inT (am_t2 87 rfl) rfl)⟩
theorem am_okF1_7 : am_pF 1 (((33, (1, 7)) : Nat × (Nat × Nat))).1 (((33, (1, 7)) : Nat × (Nat × Nat))).2.1 (((33, (1, 7)) : Nat × (Nat × Nat))).2.2 := ⟨RX1, TX1, 9, rfl, by decide, Or.inl (am_inT (am_t2 90 rfl) rfl)⟩
theorem am_okF1_8 : am_pF 1 (((37, (1, 8)) : Nat × (Nat × Nat))).1 (((37, (1, 8)) : Nat × (Nat × Nat))).2.1 (((37, (1, 8)) : Nat × (Nat × Nat))).2.2 := ⟨RX1, TX1, 9, rfl, by decide, Or.inl (am_inT (am_t2 92 rfl) rfl)⟩
theorem am_okF1 : ∀ q ∈ am_tf_1, am_pF 1 (q).1 (q).2.1 (q).2.2 := by
  unfold am_tf_1
  exact List.forall_mem_cons.mpr ⟨am_okF1_0, List.forall_mem_cons.mpr ⟨am_okF1_1, List.forall_mem_cons.mpr ⟨am_okF1_2, List.forall_mem_cons.mpr ⟨am_okF1_3, List.forall_mem_cons.mpr ⟨am_okF1_4, List.forall_mem_cons.mpr ⟨am_okF1_5, List.forall_mem_cons.mpr ⟨am_okF1_6, List.forall_mem_cons.mpr ⟨am_okF1_7, List.forall_mem_cons.mpr ⟨am_okF1_8, (fun _ h => nomatch h)⟩⟩⟩⟩⟩⟩⟩⟩⟩
theorem am_okF2_0 : am_pF 2 (((12, (2, 1)) : Nat × (Nat × Nat))).1 (((12, (2, 1)) : Nat × (Nat × Nat))).2.1 (((12, (2, 1)) : Nat × (Nat × Nat))).2.2 := ⟨RX2, TX2, 17, rfl, by decide, Or.inl (am_inT (am_t2 168 rfl) rfl)⟩
theorem am_okF2_1 : am_pF 2 (((18, (2, 3)) : Nat × (Nat × Nat))).1 (((18, (2, 3)) : Nat × (Nat × Nat))).2.1 (((18, (2, 3)) : Nat × (Nat × Nat))).2.2 := ⟨RX2, TX2, 17, rfl, by decide, Or.inl (am_inT (am_t2 171 rfl) rfl)⟩
theorem am_okF2_2 : am_pF 2 (((22, (2, 4)) : Nat × (Nat × Nat))).1 (((22, (2, 4)) : Nat × (Nat × Nat))).2.1 (((22, (2, 4)) : Nat × (Nat × Nat))).2.2 := ⟨RX2, TX2, 17, rfl, by decide, Or.inl (am_inT (am_t2 174 rfl) rfl)⟩
theorem am_okF2_3 : am_pF 2 (((26, (2, 5)) : Nat × (Nat × Nat))).1 (((26, (2, 5)) : Nat × (Nat × Nat))).2.1 (((26, (2, 5)) : Nat × (Nat × Nat))).2.2 := ⟨RX2, TX2, 17, rfl, by decide, Or.inl (am_inT (am_t2 177 rfl) rfl)⟩
theorem am_okF2_4 : am_pF 2 (((29, (2, 6)) : Nat × (Nat × Nat))).1 (((29, (2, 6)) : Nat × (Nat × Nat))).2.1 (((29, (2, 6)) : Nat × (Nat × Nat))).2.2 := ⟨RX2, TX2, 17, rfl, by decide, Or.inl (am_inT (am_t2 178 rfl) rfl)⟩
theorem am_okF2_5 : am_pF 2 (((32, (2, 7)) : Nat × (Nat × Nat))).1 (((32, (2, 7)) : Nat × (Nat × Nat))).2.1 (((32, (2, 7)) : Nat × (Nat × Nat))).2.2 := ⟨RX2, TX2, 17, rfl, by decide, Or.inl (am_inT (am_t2 179 rfl) rfl)⟩
theorem am_okF2_6 : am_pF 2 (((35, (2, 8)) : Nat × (Nat × Nat))).1 (((35, (2, 8)) : Nat × (Nat × Nat))).2.1 (((35, (2, 8)) : Nat × (Nat × Nat))).2.2 := ⟨RX2, TX2, 17, rfl, by decide, Or.inl (am_inT (am_t2 180 rfl) rfl)⟩
theorem am_okF2_7 : am_pF 2 (((38, (2, 9)) : Nat × (Nat × Nat))).1 (((38, (2, 9)) : Nat × (Nat × Nat))).2.1 (((38, (2, 9)) : Nat × (Nat × Nat))).2.2 := ⟨RX2, TX2, 17, rfl, by decide, Or.inl (am_inT (am_t2 181 rfl) rfl)⟩
theorem am_okF2_8 : am_pF 2 (((41, (2, 10)) : Nat × (Nat × Nat))).1 (((41, (2, 10)) : Nat × (Nat × Nat))).2.1 (((41, (2, 10)) : Nat × (Nat × Nat))).2.2 := ⟨RX2, TX2, 17, rfl, by decide, Or.inl (am_inT (am_t2 182 rfl) rfl)⟩
theorem am_okF2_9 : am_pF 2 (((44, (2, 11)) : Nat × (Nat × Nat))).1 (((44, (2, 11)) : Nat × (Nat × Nat))).2.1 (((44, (2, 11)) : Nat × (Nat × Nat))).2.2 := ⟨RX2, TX2, 17, rfl, by decide, Or.inl (am_inT (am_t2 183 rfl) rfl)⟩
theorem am_okF2_10 : am_pF 2 (((47, (2, 12)) : Nat × (Nat × Nat))).1 (((47, (2, 12)) : Nat × (Nat × Nat))).2.1 (((47, (2, 12)) : Nat × (Nat × Nat))).2.2 := ⟨RX2, TX2, 17, rfl, by decide, Or.inl (am_inT (am_t2 184 rfl) rfl)⟩
theorem am_okF2_11 : am_pF 2 (((50, (2, 13)) : Nat × (Nat × Nat))).1 (((50, (2, 13)) : Nat × (Nat × Nat))).2.1 (((50, (2, 13)) : Nat × (Nat × Nat))).2.2 := ⟨RX2, TX2, 17, rfl, by decide, Or.inl (am_inT (am_t2 185 rfl) rfl)⟩
theorem am_okF2_12 : am_pF 2 (((53, (2, 14)) : Nat × (Nat × Nat))).1 (((53, (2, 14)) : Nat × (Nat × Nat))).2.1 (((53, (2, 14)) : Nat × (Nat × Nat))).2.2 := ⟨RX2, TX2, 17, rfl, by decide, Or.inl (am_inT (am_t2 186 rfl) rfl)⟩
theorem am_okF2_13 : am_pF 2 (((56, (2, 15)) : Nat × (Nat × Nat))).1 (((56, (2, 15)) : Nat × (Nat × Nat))).2.1 (((56, (2, 15)) : Nat × (Nat × Nat))).2.2 := ⟨RX2, TX2, 17, rfl, by decide, Or.inl (am_inT (am_t2 188 rfl) rfl)⟩
theorem am_okF2_14 : am_pF 2 (((59, (2, 16)) : Nat × (Nat × Nat))).1 (((59, (2, 16)) : Nat × (Nat × Nat))).2.1 (((59, (2, 16)) : Nat × (Nat × Nat))).2.2 := ⟨RX2, TX2, 17, rfl, by decide, Or.inl (am_inT (am_t2 190 rfl) rfl)⟩
theorem am_okF2_15 : am_pF 2 (((63, (2, 2)) : Nat × (Nat × Nat))).1 (((63, (2, 2)) : Nat × (Nat × Nat))).2.1 (((63, (2, 2)) : Nat × (Nat × Nat))).2.2 := ⟨RX2, TX2, 17, rfl, by decide, Or.inl (am_inT (am_t2 170 rfl) rfl)⟩
theorem am_okF2_16 : am_pF 2 (((69, (5, 0)) : Nat × (Nat × Nat))).1 (((69, (5, 0)) : Nat × (Nat × Nat))).2.1 (((69, (5, 0)) : Nat × (Nat × Nat))).2.2 := ⟨RX5, TX5, 19, rfl, by decide, Or.inl (am_inT (am_t1 152 rfl) rfl)⟩
theorem am_okF2_17 : am_pF 2 (((78, (2, 0)) : Nat × (Nat × Nat))).1 (((78, (2, 0)) : Nat × (Nat × Nat))).2.1 (((78, (2, 0)) : Nat × (Nat × Nat))).2.2 := ⟨RX2, TX2, 17, rfl, by decide, Or.inl (am_inT (am_t2 165 rfl) rfl)⟩
theorem am_okF2_18 : am_pF 2 (((89, (5, 6)) : Nat × (Nat × Nat))).1 (((89, (5, 6)) : Nat × (Nat × Nat))).2.1 (((89, (5, 6)) : Nat × (Nat × Nat))).2.2 := ⟨RX5, TX5, 19, rfl, by decide, Or.inl (am_inT (am_t1 169 rfl) rfl)⟩
theorem am_okF2_19 : am_pF 2 (((92, (5, 5)) : Nat × (Nat × Nat))).1 (((92, (5, 5)) : Nat × (Nat × Nat))).2.1 (((92, (5, 5)) : Nat × (Nat × Nat))).2.2 := ⟨RX5, TX5, 19, rfl, by decide, Or.inl (am_inT (am_t1 166 rfl) rfl)⟩
theorem am_okF2_20 : am_pF 2 (((95, (5, 2)) : Nat × (Nat × Nat))).1 (((95, (5, 2)) : Nat × (Nat × Nat))).2.1 (((95, (5, 2)) : Nat × (Nat × Nat))).2.2 := ⟨RX5, TX5, 19, rfl, by decide, Or.inl (am_inT (am_t1 158 rfl) rfl)⟩
theorem am_okF2_21 : am_pF 2 (((98, (8, 10)) : Nat × (Nat × Nat))).1 (((98, (8, 10)) : Nat × (Nat × Nat))).2.1 (((98, (8, 10)) : Nat × (Nat × Nat))).2.2 := ⟨RX8, TX8, 11, rfl, by decide, Or.inr ⟨by decide, "RuleSheets", (am_inN (am_t2 140 rfl) rfl)⟩⟩
theorem am_okF2_22 : am_pF 2 (((101, (5, 3)) : Nat × (Nat × Nat))).1 (((101, (5, 3)) : Nat × (Nat × Nat))).2.1 (((101, (5, 3)) : Nat × (Nat × Nat))).2.2 := ⟨RX5, TX5, 19, rfl, by decide, Or.inl (am_inT (am_t1 161 rfl) rfl)⟩
theorem am_okF2_23 : am_pF 2 (((104, (5, 1)) : Nat × (Nat × Nat))).1 (((104, (5, 1)) : Nat × (Nat × Nat))).2.1 (((104, (5, 1)) : Nat × (Nat × Nat))).2.2 := ⟨RX5, TX5, 19, rfl, by decide, Or.inl (am_inT (am_t1 155 rfl) rfl)⟩
theorem am_okF2_24 : am_pF 2 (((111, (8, 9)) : Nat × (Nat × Nat))).1 (((111, (8, 9)) : Nat × (Nat × Nat))).2.1 (((111, (8, 9)) : Nat × (Nat × Nat))).2.2 := ⟨RX8, TX8, 11, rfl, by decide, Or.inr ⟨by decide, "RuleSheets", (am_inN (am_t2 137 rfl) rfl)⟩⟩
theorem am_okF2_25 : am_pF 2 (((117, (5, 13)) : Nat × (Nat × Nat))).1 (((117, (5, 13)) : Nat × (Nat × Nat))).2.1 (((117, (5, 13)) : Nat × (Nat × Nat))).2.2 := ⟨RX5, TX5, 19, rfl, by decide, Or.inl (am_inT (am_t1 189 rfl) rfl)⟩
theorem am_okF2_26 : am_pF 2 (((120, (5, 7)) : Nat × (Nat × Nat))).1 (((120, (5, 7)) : Nat × (Nat × Nat))).2.1 (((120, (5, 7)) : Nat × (Nat × Nat))).2.2 := ⟨RX5, TX5, 19, rfl, by decide, Or.inl (am_inT (am_t1 172 rfl) rfl)⟩
theorem am_okF2_27 : am_pF 2 (((127, (5, 18)) : Nat × (Nat × Nat))).1 (((127, (5, 18)) : Nat × (Nat × Nat))).2.1 (((127, (5, 18)) : Nat × (Nat × Nat))).2.2 := ⟨RX5, TX5, 19, rfl, by decide, Or.inl (am_inT (am_t1 205 rfl) rfl)⟩
theorem am_okF2_28 : am_pF 2 (((130, (1, 7)) : Nat × (Nat × Nat))).1 (((130, (1, 7)) : Nat × (Nat × Nat))).2.1 (((130, (1, 7)) : Nat × (Nat × Nat))).2.2 := ⟨RX1, TX1, 9, rfl, by decide, Or.inr ⟨by decide, "RuleSheets", (am_inN (am_t2 91 rfl) rfl)⟩⟩
theorem am_okF2_29 : am_pF 2 (((145, (1, 8)) : Nat × (Nat × Nat))).1 (((145, (1, 8)) : Nat × (Nat × Nat))).2.1 (((145, (1, 8)) : Nat × (Nat × Nat))).2.2 := ⟨RX1, TX1, 9, rfl, by decide, Or.inr ⟨by decide, "RuleSheets", (am_inN (am_t2 93 rfl) rfl)⟩⟩
theorem am_okF2_30 : am_pF 2 (((149, (5, 17)) : Nat × (Nat × Nat))).1 (((149, (5, 17)) : Nat × (Nat × Nat))).2.1 (((149, (5, 17)) : Nat × (Nat × Nat))).2.2 := ⟨RX5, TX5, 19, rfl, by decide, Or.inl (am_inT (am_t1 202 rfl) rfl)⟩
theorem am_okF2_31 : am_pF 2 (((156, (5, 9)) : Nat × (Nat × Nat))).1 (((156, (5, 9)) : Nat × (Nat × Nat))).2.1 (((156, (5, 9)) : Nat × (Nat × Nat))).2.2 := ⟨RX5, TX5, 19, rfl, by decide, Or.inl (am_inT (am_t1 178 rfl) rfl)⟩
theorem am_okF2_32 : am_pF 2 (((159, (1, 6)) : Nat × (Nat × Nat))).1 (((159, (1, 6)) : Nat × (Nat × Nat))).2.1 (((159, (1, 6)) : Nat × (Nat × Nat))).2.2 := ⟨RX1, TX1, 9, rfl, by decide, Or.inr ⟨by decide, "RuleSheets", (am_inN (am_t2 89 rfl) rfl)⟩⟩
theorem am_okF2_33 : am_pF 2 (((169, (5, 15)) : Nat × (Nat × Nat))).1 (((169, (5, 15)) : Nat × (Nat × Nat))).2.1 (((169, (5, 15)) : Nat × (Nat × Nat))).2.2 := ⟨RX5, TX5, 19, rfl, by decide, Or.inl (am_inT (am_t1 196 rfl) rfl)⟩
theorem am_okF2_34 : am_pF 2 (((172, (5, 16)) : Nat × (Nat × Nat))).1 (((172, (5, 16)) : Nat × (Nat × Nat))).2.1 (((172, (5, 16)) : Nat × (Nat × Nat))).2.2 := ⟨RX5, TX5, 19, rfl, by decide, Or.inl (am_inT (am_t1 199 rfl) rfl)⟩
theorem am_okF2_35 : am_pF 2 (((175, (5, 14)) : Nat × (Nat × Nat))).1 (((175, (5, 14)) : Nat × (Nat × Nat))).2.1 (((175, (5, 14)) : Nat × (Nat × Nat))).2.2 := ⟨RX5, TX5, 19, rfl, by decide, Or.inl (am_inT (am_t1 193 rfl) rfl)⟩
theorem am_okF2_36 : am_pF 2 (((181, (1, 0)) : Nat × (Nat × Nat))).1 (((181, (1, 0)) : Nat × (Nat × Nat))).2.1 (((181, (1, 0)) : Nat × (Nat × Nat))).2.2 := ⟨RX1, TX1, 9, rfl, by decide, Or.inr ⟨by decide, "RuleSheets", (am_inN (am_t2 75 rfl) rfl)⟩⟩
theorem am_okF2_37 : am_pF 2 (((195, (5, 10)) : Nat × (Nat × Nat))).1 (((195, (5, 10)) : Nat × (Nat × Nat))).2.1 (((195, (5, 10)) : Nat × (Nat × Nat))).2.2 := ⟨RX5, TX5, 19, rfl, by decide, Or.inl (am_inT (am_t1 180 rfl) rfl)⟩
theorem am_okF2_38 : am_pF 2 (((198, (1, 5)) : Nat × (Nat × Nat))).1 (((198, (1, 5)) : Nat × (Nat × Nat))).2.1 (((198, (1, 5)) : Nat × (Nat × Nat))).2.2 := ⟨RX1, TX1, 9, rfl, by decide, Or.inr ⟨by decide, "RuleSheets", (am_inN (am_t2 86 rfl) rfl)⟩⟩
theorem am_okF2_39 : am_pF 2 (((201, (1, 2)) : Nat × (Nat × Nat))).1 (((201, (1, 2)) : Nat × (Nat × Nat))).2.1 (((201, (1, 2)) : Nat × (Nat × Nat))).2.2 := ⟨RX1, TX1, 9, rfl, by decide, Or.inr ⟨by decide, "RuleSheets", (am_inN (am_t2 81 rfl) rfl)⟩⟩
theorem am_okF2_40 : am_pF 2 (((214, (1, 1)) : Nat × (Nat × Nat))).1 (((214, (1, 1)) : Nat × (Nat × Nat))).2.1 (((214, (1, 1)) : Nat × (Nat × Nat))).2.2 := ⟨RX1, TX1, 9, rfl, by decide, Or.inr ⟨by decide, "RuleSheets", (am_inN (am_t2 78 rfl) rfl)⟩⟩
theorem am_okF2_41 : am_pF 2 (((217, (5, 4)) : Nat × (Nat × Nat))).1 (((217, (5, 4)) : Nat × (Nat × Nat))).2.1 (((217, (5, 4)) : Nat × (Nat × Nat))).2.2 := ⟨RX5, TX5, 19, rfl, by decide, Or.inl (am_inT (am_t1 164 rfl) rfl)⟩
theorem am_okF2_42 : am_pF 2 (((220, (8, 1)) : Nat × (Nat × Nat))).1 (((220, (8, 1)) : Nat × (Nat × Nat))).2.1 (((220, (8, 1)) : Nat × (Nat × Nat))).2.2 := ⟨RX8, TX8, 11, rfl, by decide, Or.inr ⟨by decide, "RuleSheets", (am_inN (am_t2 122 rfl) rfl)⟩⟩
theorem am_okF2_43 : am_pF 2 (((221, (8, 2)) : Nat × (Nat × Nat))).1 (((221, (8, 2)) : Nat × (Nat × Nat))).2.1 (((221, (8, 2)) : Nat × (Nat × Nat))).2.2 := ⟨RX8, TX8, 11, rfl, by decide, Or.inr ⟨by decide, "RuleSheets", (am_inN (am_t2 125 rfl) rfl)⟩⟩
theorem am_okF2_44 : am_pF 2 (((222, (8, 3)) : Nat × (Nat × Nat))).1 (((222, (8, 3)) : Nat × (Nat × Nat))).2.1 (((222, (8, 3)) : Nat × (Nat × Nat))).2.2 := ⟨RX8, TX8, 11, rfl, by decide, Or.inr ⟨by decide, "RuleSheets", (am_inN (am_t2 128 rfl) rfl)⟩⟩
theorem am_okF2_45 : am_pF 2 (((223, (5, 12)) : Nat × (Nat × Nat))).1 (((223, (5, 12)) : Nat × (Nat × Nat))).2.1 (((223, (5, 12)) : Nat × (Nat × Nat))).2.2 := ⟨RX5, TX5, 19, rfl, by decide, Or.inl (am_inT (am_t1 186 rfl) rfl)⟩
theorem am_okF2_46 : am_pF 2 (((229, (8, 4)) : Nat × (Nat × Nat))).1 (((229, (8, 4)) : Nat × (Nat × Nat))).2.1 (((229, (8, 4)) : Nat × (Nat × Nat))).2.2 := ⟨RX8, TX8, 11, rfl, by decide, Or.inr ⟨by decide, "RuleSheets", (am_inN (am_t2 130 rfl) rfl)⟩⟩
theorem am_okF2 : ∀ q ∈ am_tf_2, am_pF 2 (q).1 (q).2.1 (q).2.2 := by
  unfold am_tf_2
  exact List.forall_mem_cons.mpr ⟨am_okF2_0, List.forall_mem_cons.mpr ⟨am_okF2_1, List.forall_mem_cons.mpr ⟨am_okF2_2, List.forall_mem_cons.mpr ⟨am_okF2_3, List.forall_mem_cons.mpr ⟨am_okF2_4, List.forall_mem_cons.mpr ⟨am_okF2_5, List.forall_mem_cons.mpr ⟨am_okF2_6, List.forall_mem_cons.mpr ⟨am_okF2_7, List.forall_mem_cons.mpr ⟨am_okF2_8, List.forall_mem_cons.mpr ⟨am_okF2_9, List.forall_mem_cons.mpr ⟨am_okF2_10, List.forall_mem_cons.mpr ⟨am_okF2_11, List.forall_mem_cons.mpr ⟨am_okF2_12, List.forall_mem_cons.mpr ⟨am_okF2_13, List.forall_mem_cons.mpr ⟨am_okF2_14, List.forall_mem_cons.mpr ⟨am_okF2_15, List.forall_mem_cons.mpr ⟨am_okF2_16, List.forall_mem_cons.mpr ⟨am_okF2_17, List.forall_mem_cons.mpr ⟨am_okF2_18, List.forall_mem_cons.mpr ⟨am_okF2_19, List.forall_mem_cons.mpr ⟨am_okF2_20, List.forall_mem_cons.mpr ⟨am_okF2_21, List.forall_mem_cons.mpr ⟨am_okF2_22, List.forall_mem_cons.mpr ⟨am_okF2_23, List.forall_mem_cons.mpr ⟨am_okF2_24, List.forall_mem_cons.mpr ⟨am_okF2_25, List.forall_mem_cons.mpr ⟨am_okF2_26, List.forall_mem_cons.mpr ⟨am_okF2_27, List.forall_mem_cons.mpr ⟨am_okF2_28, List.forall_mem_cons.mpr ⟨am_okF2_29, List.forall_mem_cons.mpr ⟨am_okF2_30, List.forall_mem_cons.mpr ⟨am_okF2_31, List.forall_mem_cons.mpr ⟨am_okF2_32, List.forall_mem_cons.mpr ⟨am_okF2_33, List.forall_mem_cons.mpr ⟨am_okF2_34, List.forall_mem_cons.mpr ⟨am_okF2_35, List.forall_mem_cons.mpr ⟨am_okF2_36, List.forall_mem_cons.mpr ⟨am_okF2_37, List.forall_mem_cons.mpr ⟨am_okF2_38, List.forall_mem_cons.mpr ⟨am_okF2_39, List.forall_mem_cons.mpr ⟨am_okF2_40, List.forall_mem_cons.mpr ⟨am_okF2_41, List.forall_mem_cons.mpr ⟨am_okF2_42, List.forall_mem_cons.mpr ⟨am_okF2_43, List.forall_mem_cons.mpr ⟨am_okF2_44, List.forall_mem_cons.mpr ⟨am_okF2_45, List.forall_mem_cons.mpr ⟨am_okF2_46, (fun _ h => nomatch h)⟩⟩⟩⟩⟩⟩⟩⟩⟩⟩⟩⟩⟩⟩⟩⟩⟩⟩⟩⟩⟩⟩⟩⟩⟩⟩⟩⟩⟩⟩⟩⟩⟩⟩⟩⟩⟩⟩⟩⟩⟩⟩⟩⟩⟩⟩⟩
theorem am_okF3_0 : am_pF 3 (((17, (3, 0)) : Nat × (Nat × Nat))).1 (((17, (3, 0)) : Nat × (Nat × Nat))).2.1 (((17, (3, 0)) : Nat × (Nat × Nat))).2.2 := ⟨RX3, TX3, 5, rfl, by decide, Or.inl (am_inT (am_t1 133 rfl) rfl)⟩
theorem am_okF3_1 : am_pF 3 (((27, (3, 1)) : Nat × (Nat × Nat))).1 (((27, (3, 1)) : Nat × (Nat × Nat))).2.1 (((27, (3, 1)) : Nat × (Nat × Nat))).2.2 := ⟨RX3, TX3, 5, rfl, by decide, Or.inl (am_inT (am_t1 134 rfl) rfl)⟩
theorem am_okF3_2 : am_pF 3 (((30, (3, 2)) : Nat × (Nat × Nat))).1 (((30, (3, 2)) : Nat × (Nat × Nat))).2.1 (((30, (3, 2)) : Nat × (Nat × Nat))).2.2 := ⟨RX3, TX3, 5, rfl, by decide, Or.inl (am_inT (am_t1 135 rfl) rfl)⟩
theorem am_okF3_3 : am_pF 3 (((34, (3, 3)) : Nat × (Nat × Nat))).1 (((34, (3, 3)) : Nat × (Nat × Nat))).2.1 (((34, (3, 3)) : Nat × (Nat × Nat))).2.2 := ⟨RX3, TX3, 5, rfl, by decide, Or.inl (am_inT (am_t1 137 rfl) rfl)⟩
theorem am_okF3_4 : am_pF 3 (((37, (3, 4)) : Nat × (Nat × Nat))).1 (((37, (3, 4)) : Nat × (Nat × Nat))).2.1 (((37, (3, 4)) : Nat × (Nat × Nat))).2.2 := ⟨RX3, TX3, 5, rfl, by decide, Or.inl (am_inT (am_t1 138 rfl) rfl)⟩
theorem am_okF3 : ∀ q ∈ am_tf_3, am_pF 3 (q).1 (q).2.1 (q).2.2 := by
  unfold am_tf_3
  exact List.forall_mem_cons.mpr ⟨am_okF3_0, List.forall_mem_cons.mpr ⟨am_okF3_1, List.forall_mem_cons.mpr ⟨am_okF3_2, List.forall_mem_cons.mpr ⟨am_okF3_3, List.forall_mem_cons.mpr ⟨am_okF3_4, (fun _ h => nomatch h)⟩⟩⟩⟩⟩
theorem am_okF4_0 : am_pF 4 (((9, (4, 2)) : Nat × (Nat × Nat))).1 (((9, (4, 2)) : Nat × (Nat × Nat))).2.1 (((9, (4, 2)) : Nat × (Nat × Nat))).2.2 := ⟨RX4, TX4, 6, rfl, by decide, Or.inl (am_inT (am_t2 14 rfl) rfl)⟩
theorem am_okF4_1 : am_pF 4 (((15, (4, 3)) : Nat × (Nat × Nat))).1 (((15, (4, 3)) : Nat × (Nat × Nat))).2.1 (((15, (4, 3)) : Nat × (Nat × Nat))).2.2 := ⟨RX4, TX4, 6, rfl, by decide, Or.inl (am_inT (am_t2 15 rfl) rfl)⟩
theorem am_okF4_2 : am_pF 4 (((19, (4, 4)) : Nat × (Nat × Nat))).1 (((19, (4, 4)) : Nat × (Nat × Nat))).2.1 (((19, (4, 4)) : Nat × (Nat × Nat))).2.2 := ⟨RX4, TX4, 6, rfl, by decide, Or.inl (am_inT (am_t2 16 rfl) rfl)⟩
theorem am_okF4_3 : am_pF 4 (((22, (4, 5)) : Nat × (Nat × Nat))).1 (((22, (4, 5)) : Nat × (Nat × Nat))).2.1 (((22, (4, 5)) : Nat × (Nat × Nat))).2.2 := ⟨RX4, TX4, 6, rfl, by decide, Or.inl (am_inT (am_t2 17 rfl) rfl)⟩
theorem am_okF4_4 : am_pF 4 (((25, (4, 0)) : Nat × (Nat × Nat))).1 (((25, (4, 0)) : Nat × (Nat × Nat))).2.1 (((25, (4, 0)) : Nat × (Nat × Nat))).2.2 := ⟨RX4, TX4, 6, rfl, by decide, Or.inl (am_inT (am_t2 12 rfl) rfl)⟩
theorem am_okF4_5 : am_pF 4 (((29, (4, 1)) : Nat × (Nat × Nat))).1 (((29, (4, 1)) : Nat × (Nat × Nat))).2.1 (((29, (4, 1)) : Nat × (Nat × Nat))).2.2 := ⟨RX4, TX4, 6, rfl, by decide, Or.inl (am_inT (am_t2 13 rfl) rfl)⟩
theorem am_okF4_6 : am_pF 4 (((37, (9, 1)) : Nat × (Nat × Nat))).1 (((37, (9, 1)) : Nat × (Nat × Nat))).2.1 (((37, (9, 1)) : Nat × (Nat × Nat))).2.2 := ⟨RX9, TX9, 6, rfl, by decide, Or.inl (am_inT (am_t1 46 rfl) rfl)⟩
theorem am_okF4_7 : am_pF 4 (((42, (5, 13)) : Nat × (Nat × Nat))).1 (((42, (5, 13)) : Nat × (Nat × Nat))).2.1 (((42, (5, 13)) : Nat × (Nat × Nat))).2.2 := ⟨RX5, TX5, 19, rfl, by decide, Or.inl (am_inT (am_t1 188 rfl) rfl)⟩
theorem am_okF4_8 : am_pF 4 (((51, (9, 0)) : Nat × (Nat × Nat))).1 (((51, (9, 0)) : Nat × (Nat × Nat))).2.1 (((51, (9, 0)) : Nat × (Nat × Nat))).2.2 := ⟨RX9, TX9, 6, rfl, by decide, Or.inl (am_inT (am_t1 44 rfl) rfl)⟩
theorem am_okF4_9 : am_pF 4 (((53, (5, 9)) : Nat × (Nat × Nat))).1 (((53, (5, 9)) : Nat × (Nat × Nat))).2.1 (((53, (5, 9)) : Nat × (Nat × Nat))).2.2 := ⟨RX5, TX5, 19, rfl, by decide, Or.inl (am_inT (am_t1 176 rfl) rfl)⟩
theorem am_okF4_10 : am_pF 4 (((56, (5, 12)) : Nat × (Nat × Nat))).1 (((56, (5, 12)) : Nat × (Nat × Nat))).2.1 (((56, (5, 12)) : Nat × (Nat × Nat))).2.2 := ⟨RX5, TX5, 19, rfl, by decide, Or.inl (am_inT (am_t1 184 rfl) rfl)⟩
theorem am_okF4_11 : am_pF 4 (((59, (5, 7)) : Nat × (Nat × Nat))).1 (((59, (5, 7)) : Nat × (Nat × Nat))).2.1 (((59, (5, 7)) : Nat × (Nat × Nat))).2.2 := ⟨RX5, TX5, 19, rfl, by decide, Or.inl (am_inT (am_t1 173 rfl) rfl)⟩
theorem am_okF4_12 : am_pF 4 (((76, (9, 2)) : Nat × (Nat × Nat))).1 (((76, (9, 2)) : Nat × (Nat × Nat))).2.1 (((76, (9, 2)) : Nat × (Nat × Nat))).2.2 := ⟨RX9, TX9, 6, rfl, by decide, Or.inl (am_inT (am_t1 48 rfl) rfl)⟩
theorem am_okF4 : ∀ q ∈ am_tf_4, am_pF 4 (q).1 (q).2.1 (q).2.2 := by
  unfold am_tf_4
  exact List.forall_mem_cons.mpr ⟨am_okF4_0, List.forall_mem_cons.mpr ⟨am_okF4_1, List.forall_mem_cons.mpr ⟨am_okF4_2, List.forall_mem_cons.mpr ⟨am_okF4_3, List.forall_mem_cons.mpr ⟨am_okF4_4, List.forall_mem_cons.mpr ⟨am_okF4_5, List.forall_mem_cons.mpr ⟨am_okF4_6, List.forall_mem_cons.mpr ⟨am_okF4_7, List.forall_mem_cons.mpr ⟨am_okF4_8, List.forall_mem_cons.mpr ⟨am_okF4_9, List.forall_mem_cons.mpr ⟨am_okF4_10, List.forall_mem_cons.mpr ⟨am_okF4_11, List.forall_mem_cons.mpr ⟨am_okF4_12, (fun _ h => nomatch h)⟩⟩⟩⟩⟩⟩⟩⟩⟩⟩⟩⟩⟩
theorem am_okF5_0 : am_pF 5 (((12, (5, 0)) : Nat × (Nat × Nat))).1 (((12, (5, 0)) : Nat × (Nat × Nat))).2.1 (((12, (5, 0)) : Nat × (Nat × Nat))).2.2 := ⟨RX5, TX5, 19, rfl, by decide, Or.inl (am_inT (am_t1 151 rfl) rfl)⟩
theorem am_okF5_1 : am_pF 5 (((18, (5, 1)) : Nat × (Nat × Nat))).1 (((18, (5, 1)) : Nat × (Nat × Nat))).2.1 (((18, (5, 1)) : Nat × (Nat × Nat))).2.2 := ⟨RX5, TX5, 19, rfl, by decide, Or.inl (am_inT (am_t1 154 rfl) rfl)⟩
theorem am_okF5_2 : am_pF 5 (((22, (5, 2)) : Nat × (Nat × Nat))).1 (((22, (5, 2)) : Nat × (Nat × Nat))).2.1 (((22, (5, 2)) : Nat × (Nat × Nat))).2.2 := ⟨RX5, TX5, 19, rfl, by decide, Or.inl (am_inT (am_t1 157 rfl) rfl)⟩
theorem am_okF5_3 : am_pF 5 (((25, (5, 3)) : Nat × (Nat × Nat))).1 (((25, (5, 3)) : Nat × (Nat × Nat))).2.1 (((25, (5, 3)) : Nat × (Nat × Nat))).2.2 := ⟨RX5, TX5, 19, rfl, by decide, Or.inl (am_inT (am_t1 160 rfl) rfl)⟩
theorem am_okF5_4 : am_pF 5 (((28, (5, 4)) : Nat × (Nat × Nat))).1 (((28, (5, 4)) : Nat × (Nat × Nat))).2.1 (((28, (5, 4)) : Nat × (Nat × Nat))).2.2 := ⟨RX5, TX5, 19, rfl, by decide, Or.inl (am_inT (am_t1 163 rfl) rfl)⟩
theorem am_okF5_5 : am_pF 5 (((31, (5, 5)) : Nat × (Nat × Nat))).1 (((31, (5, 5)) : Nat × (Nat × Nat))).2.1 (((31, (5, 5)) : Nat × (Nat × Nat))).2.2 := ⟨RX5, TX5, 19, rfl, by decide, Or.inl (am_inT (am_t1 165 rfl) rfl)⟩
theorem am_okF5_6 : am_pF 5 (((34, (5, 6)) : Nat × (Nat × Nat))).1 (((34, (5, 6)) : Nat × (Nat × Nat))).2.1 (((34, (5, 6)) : Nat × (Nat × Nat))).2.2 := ⟨RX5, TX5, 19, rfl, by decide, Or.inl (am_inT (am_t1 168 rfl) rfl)⟩
theorem am_okF5_7 : am_pF 5 (((38, (5, 7)) : Nat × (Nat × Nat))).1 (((38, (5, 7)) : Nat × (Nat × Nat))).2.1 (((38, (5, 7)) : Nat × (Nat × Nat))).2.2 := ⟨RX5, TX5, 19, rfl, by decide, Or.inl (am_inT (am_t1 170 rfl) rfl)⟩
theorem am_okF5_8 : am_pF 5 (((41, (5, 8)) : Nat × (Nat × Nat))).1 (((41, (5, 8)) : Nat × (Nat × Nat))).2.1 (((41, (5, 8)) : Nat × (Nat × Nat))).2.2 := ⟨RX5, TX5, 19, rfl, by decide, Or.inl (am_inT (am_t1 174 rfl) rfl)⟩
theorem am_okF5_9 : am_pF 5 (((44, (5, 9)) : Nat × (Nat × Nat))).1 (((44, (5, 9)) : Nat × (Nat × Nat))).2.1 (((44, (5, 9)) : Nat × (Nat × Nat))).2.2 := ⟨RX5, TX5, 19, rfl, by decide, Or.inl (am_inT (am_t1 175 rfl) rfl)⟩
theorem am_okF5_10 : am_pF 5 (((47, (5, 10)) : Nat × (Nat × Nat))).1 (((47, (5, 10)) : Nat × (Nat × Nat))).2.1 (((47, (5, 10)) : Nat × (Nat × Nat))).2.2 := ⟨RX5, TX5, 19, rfl, by decide, Or.inl (am_inT (am_t1 179 rfl) rfl)⟩
theorem am_okF5_11 : am_pF 5 (((50, (5, 11)) : Nat × (Nat × Nat))).1 (((50, (5, 11)) : Nat × (Nat × Nat))).2.1 (((50, (5, 11)) : Nat × (Nat × Nat))).2.2 := ⟨RX5, TX5, 19, rfl, by decide, Or.inl (am_inT (am_t1 182 rfl) rfl)⟩
theorem am_okF5_12 : am_pF 5 (((53, (5, 12)) : Nat × (Nat × Nat))).1 (((53, (5, 12)) : Nat × (Nat × Nat))).2.1 (((53, (5, 12)) : Nat × (Nat × Nat))).2.2 := ⟨RX5, TX5, 19, rfl, by decide, Or.inl (am_inT (am_t1 183 rfl) rfl)⟩
theorem am_okF5_13 : am_pF 5 (((56, (5, 13)) : Nat × (Nat × Nat))).1 (((56, (5, 13)) : Nat × (Nat × Nat))).2.1 (((56, (5, 13)) : Nat × (Nat × Nat))).2.2 := ⟨RX5, TX5, 19, rfl, by decide, Or.inl (am_inT (am_t1 187 rfl) rfl)⟩
theorem am_okF5_14 : am_pF 5 (((59, (5, 14)) : Nat × (Nat × Nat))).1 (((59, (5, 14)) : Nat × (Nat × Nat))).2.1 (((59, (5, 14)) : Nat × (Nat × Nat))).2.2 := ⟨RX5, TX5, 19, rfl, by decide, Or.inl (am_inT (am_t1 192 rfl) rfl)⟩
theorem am_okF5_15 : am_pF 5 (((62, (5, 15)) : Nat × (Nat × Nat))).1 (((62, (5, 15)) : Nat × (Nat × Nat))).2.1 (((62, (5, 15)) : Nat × (Nat × Nat))).2.2 := ⟨RX5, TX5, 19, rfl, by decide, Or.inl (am_inT (am_t1 195 rfl) rfl)⟩
theorem am_okF5_16 : am_pF 5 (((65, (5, 16)) : Nat × (Nat × Nat))).1 (((65, (5, 16)) : Nat × (Nat × Nat))).2.1 (((65, (5, 16)) : Nat × (Nat × Nat))).2.2 := ⟨RX5, TX5, 19, rfl, by decide, Or.inl (am_inT (am_t1 198 rfl) rfl)⟩
theorem am_okF5_17 : am_pF 5 (((68, (5, 17)) : Nat × (Nat × Nat))).1 (((68, (5, 17)) : Nat × (Nat × Nat))).2.1 (((68, (5, 17)) : Nat × (Nat × Nat))).2.2 := ⟨RX5, TX5, 19, rfl, by decide, Or.inl (am_inT (am_t1 201 rfl) rfl)⟩
theorem am_okF5_18 : am_pF 5 (((71, (5, 18)) : Nat × (Nat × Nat))).1 (((71, (5, 18)) : Nat × (Nat × Nat))).2.1 (((71, (5, 18)) : Nat × (Nat × Nat))).2.2 := ⟨RX5, TX5, 19, rfl, by decide, Or.inl (am_inT (am_t1 204 rfl) rfl)⟩
theorem am_okF5 : ∀ q ∈ am_tf_5, am_pF 5 (q).1 (q).2.1 (q).2.2 := by
  unfold am_tf_5
  exact List.forall_mem_cons.mpr ⟨am_okF5_0, List.forall_mem_cons.mpr ⟨am_okF5_1, List.forall_mem_cons.mpr ⟨am_okF5_2, List.forall_mem_cons.mpr ⟨am_okF5_3, List.forall_mem_cons.mpr ⟨am_okF5_4, List.forall_mem_cons.mpr ⟨am_okF5_5, List.forall_mem_cons.mpr ⟨am_okF5_6, List.forall_mem_cons.mpr ⟨am_okF5_7, List.forall_mem_cons.mpr ⟨am_okF5_8, List.forall_mem_cons.mpr ⟨am_okF5_9, List.forall_mem_cons.mpr ⟨am_okF5_10, List.forall_mem_cons.mpr ⟨am_okF5_11, List.forall_mem_cons.mpr ⟨am_okF5_12, List.forall_mem_cons.mpr ⟨am_okF5_13, List.forall_mem_cons.mpr ⟨am_okF5_14, List.forall_mem_cons.mpr ⟨am_okF5_15, List.forall_mem_cons.mpr ⟨am_okF5_16, List.forall_mem_cons.mpr ⟨am_okF5_17, List.forall_mem_cons.mpr ⟨am_okF5_18, (fun _ h => nomatch h)⟩⟩⟩⟩⟩⟩⟩⟩⟩⟩⟩⟩⟩⟩⟩⟩⟩⟩⟩
theorem am_okF6_0 : am_pF 6 (((9, (6, 0)) : Nat × (Nat × Nat))).1 (((9, (6, 0)) : Nat × (Nat × Nat))).2.1 (((9, (6, 0)) : Nat × (Nat × Nat))).2.2 := ⟨RX6, TX6, 17, rfl, by decide, Or.inl (am_inT (am_t3 52 rfl) rfl)⟩
theorem am_okF6_1 : am_pF 6 (((15, (6, 1)) : Nat × (Nat × Nat))).1 (((15, (6, 1)) : Nat × (Nat × Nat))).2.1 (((15, (6, 1)) : Nat × (Nat × Nat))).2.2 := ⟨RX6, TX6, 17, rfl, by decide, Or.inl (am_inT (am_t3 53 rfl) rfl)⟩
theorem am_okF6_2 : am_pF 6 (((21, (6, 2)) : Nat × (Nat × Nat))).1 (((21, (6, 2)) : Nat × (Nat × Nat))).2.1 (((21, (6, 2)) : Nat × (Nat × Nat))).2.2 := ⟨RX6, TX6, 17, rfl, by decide, Or.inl (am_inT (am_t3 55 rfl) rfl)⟩
theorem am_okF6_3 : am_pF 6 (((25, (6, 3)) : Nat × (Nat × Nat))).1 (((25, (6, 3)) : Nat × (Nat × Nat))).2.1 (((25, (6, 3)) : Nat × (Nat × Nat))).2.2 := ⟨RX6, TX6, 17, rfl, by decide, Or.inl (am_inT (am_t3 57 rfl) rfl)⟩
theorem am_okF6_4 : am_pF 6 (((29, (6, 4)) : Nat × (Nat × Nat))).1 (((29, (6, 4)) : Nat × (Nat × Nat))).2.1 (((29, (6, 4)) : Nat × (Nat × Nat))).2.2 := ⟨RX6, TX6, 17, rfl, by decide, Or.inl (am_inT (am_t3 59 rfl) rfl)⟩
theorem am_okF6_5 : am_pF 6 (((33, (6, 5)) : Nat × (Nat × Nat))).1 (((33, (6, 5)) : Nat × (Nat × Nat))).2.1 (((33, (6, 5)) : Nat × (Nat × Nat))).2.2 := ⟨RX6, TX6, 17, rfl, by decide, Or.inl (am_inT (am_t3 61 rfl) rfl)⟩
theorem am_okF6_6 : am_pF 6 (((36, (6, 6)) : Nat × (Nat × Nat))).1 (((36, (6, 6)) : Nat × (Nat × Nat))).2.1 (((36, (6, 6)) : Nat × (Nat × Nat))).2.2 := ⟨RX6, TX6, 17, rfl, by decide, Or.inl (am_inT (am_t3 63 rfl) rfl)⟩
theorem am_okF6_7 : am_pF 6 (((39, (6, 7)) : Nat × (Nat × Nat))).1 (((39, (6, 7)) : Nat × (Nat × Nat))).2.1 (((39, (6, 7)) : Nat × (Nat × Nat))).2.2 := ⟨RX6, TX6, 17, rfl, by decide, Or.inl (am_inT (am_t3 65 rfl) rfl)⟩
theorem am_okF6_8 : am_pF 6 (((42, (6, 8)) : Nat × (Nat × Nat))).1 (((42, (6, 8)) : Nat × (Nat × Nat))).2.1 (((42, (6, 8)) : Nat × (Nat × Nat))).2.2 := ⟨RX6, TX6, 17, rfl, by decide, Or.inl (am_inT (am_t3 66 rfl) rfl)⟩
theorem am_okF6_9 : am_pF 6 (((45, (6, 9)) : Nat × (Nat × Nat))).1 (((45, (6, 9)) : Nat × (Nat × Nat))).2.1 (((45, (6, 9)) : Nat × (Nat × Nat))).2.2 := ⟨RX6, TX6, 17, rfl, by decide, Or.inl (am_inT (am_t3 67 rfl) rfl)⟩
theorem am_okF6_10 : am_pF 6 (((48, (6, 10)) : Nat × (Nat × Nat))).1 (((48, (6, 10)) : Nat × (Nat × Nat))).2.1 (((48, (6, 10)) : Nat × (Nat × Nat))).2.2 := ⟨RX6, TX6, 17, rfl, by decide, Or.inl (am_inT (am_t3 68 rfl) rfl)⟩
theorem am_okF6_11 : am_pF 6 (((51, (6, 11)) : Nat × (Nat × Nat))).1 (((51, (6, 11)) : Nat × (Nat × Nat))).2.1 (((51, (6, 11)) : Nat × (Nat × Nat))).2.2 := ⟨RX6, TX6, 17, rfl, by decide, Or.inl (am_inT (am_t3 69 rfl) rfl)⟩
theorem am_okF6_12 : am_pF 6 (((54, (6, 12)) : Nat × (Nat × Nat))).1 (((54, (6, 12)) : Nat × (Nat × Nat))).2.1 (((54, (6, 12)) : Nat × (Nat × Nat))).2.2 := ⟨RX6, TX6, 17, rfl, by decide, Or.inl (am_inT (am_t3 71 rfl) rfl)⟩
theorem am_okF6_13 : am_pF 6 (((57, (6, 13)) : Nat × (Nat × Nat))).1 (((57, (6, 13)) : Nat × (Nat × Nat))).2.1 (((57, (6, 13)) : Nat × (Nat × Nat))).2.2 := ⟨RX6, TX6, 17, rfl, by decide, Or.inl (am_inT (am_t3 73 rfl) rfl)⟩
theorem am_okF6_14 : am_pF 6 (((60, (6, 14)) : Nat × (Nat × Nat))).1 (((60, (6, 14)) : Nat × (Nat × Nat))).2.1 (((60, (6, 14)) : Nat × (Nat × Nat))).2.2 := ⟨RX6, TX6, 17, rfl, by decide, Or.inl (am_inT (am_t3 75 rfl) rfl)⟩
theorem am_okF6_15 : am_pF 6 (((63, (6, 15)) : Nat × (Nat × Nat))).1 (((63, (6, 15)) : Nat × (Nat × Nat))).2.1 (((63, (6, 15)) : Nat × (Nat × Nat))).2.2 := ⟨RX6, TX6, 17, rfl, by decide, Or.inl (am_inT (am_t3 77 rfl) rfl)⟩
theorem am_okF6_16 : am_pF 6 (((66, (6, 16)) : Nat × (Nat × Nat))).1 (((66, (6, 16)) : Nat × (Nat × Nat))).2.1 (((66, (6, 16)) : Nat × (Nat × Nat))).2.2 := ⟨RX6, TX6, 17, rfl, by decide, Or.inl (am_inT (am_t3 78 rfl) rfl)⟩
theorem am_okF6_17 : am_pF 6 (((69, (7, 3)) : Nat × (Nat × Nat))).1 (((69, (7, 3)) : Nat × (Nat × Nat))).2.1 (((69, (7, 3)) : Nat × (Nat × Nat))).2.2 := ⟨RX7, TX7, 6, rfl, by decide, Or.inr ⟨by decide, "RuleSheets", (am_inN (am_t3 34 rfl) rfl)⟩⟩
theorem am_okF6_18 : am_pF 6 (((74, (10, 3)) : Nat × (Nat × Nat))).1 (((74, (10, 3)) : Nat × (Nat × Nat))).2.1 (((74, (10, 3)) : Nat × (Nat × Nat))).2.2 := ⟨RX10, TX10, 6, rfl, by decide, Or.inr ⟨by decide, "RuleSheets", (am_inN (am_t3 0 rfl) rfl)⟩⟩
theorem am_okF6_19 : am_pF 6 (((96, (10, 2)) : Nat × (Nat × Nat))).1 (((96, (10, 2)) : Nat × (Nat × Nat))).2.1 (((96, (10, 2)) : Nat × (Nat × Nat))).2.2 := ⟨RX10, TX10, 6, rfl, by decide, Or.inr ⟨by decide, "RuleSheets", (am_inN (am_t2 237 rfl) rfl)⟩⟩
theorem am_okF6 : ∀ q ∈ am_tf_6, am_pF 6 (q).1 (q).2.1 (q).2.2 := by
  unfold am_tf_6
  exact List.forall_mem_cons.mpr ⟨am_okF6_0, List.forall_mem_cons.mpr ⟨am_okF6_1, List.forall_mem_cons.mpr ⟨am_okF6_2, List.forall_mem_cons.mpr ⟨am_okF6_3, List.forall_mem_cons.mpr ⟨am_okF6_4, List.forall_mem_cons.mpr ⟨am_okF6_5, List.forall_mem_cons.mpr ⟨am_okF6_6, List.forall_mem_cons.mpr ⟨am_okF6_7, List.forall_mem_cons.mpr ⟨am_okF6_8, List.forall_mem_cons.mpr ⟨am_okF6_9, List.forall_mem_cons.mpr ⟨am_okF6_10, List.forall_mem_cons.mpr ⟨am_okF6_11, List.forall_mem_cons.mpr ⟨am_okF6_12, List.forall_mem_cons.mpr ⟨am_okF6_13, List.forall_mem_cons.mpr ⟨am_okF6_14, List.forall_mem_cons.mpr ⟨am_okF6_15, List.forall_mem_cons.mpr ⟨am_okF6_16, List.forall_mem_cons.mpr ⟨am_okF6_17, List.forall_mem_cons.mpr ⟨am_okF6_18, List.forall_mem_cons.mpr ⟨am_okF6_19, (fun _ h => nomatch h)⟩⟩⟩⟩⟩⟩⟩⟩⟩⟩⟩⟩⟩⟩⟩⟩⟩⟩⟩⟩
theorem am_okF7_0 : am_pF 7 (((11, (7, 0)) : Nat × (Nat × Nat))).1 (((11, (7, 0)) : Nat × (Nat × Nat))).2.1 (((11, (7, 0)) : Nat × (Nat × Nat))).2.2 := ⟨RX7, TX7, 6, rfl, by decide, Or.inl (am_inT (am_t3 30 rfl) rfl)⟩
theorem am_okF7_1 : am_pF 7 (((15, (7, 1)) : Nat × (Nat × Nat))).1 (((15, (7, 1)) : Nat × (Nat × Nat))).2.1 (((15, (7, 1)) : Nat × (Nat × Nat))).2.2 := ⟨RX7, TX7, 6, rfl, by decide, Or.inl (am_inT (am_t3 31 rfl) rfl)⟩
theorem am_okF7_2 : am_pF 7 (((19, (7, 2)) : Nat × (Nat × Nat))).1 (((19, (7, 2)) : Nat × (Nat × Nat))).2.1 (((19, (7, 2)) : Nat × (Nat × Nat))).2.2 := ⟨RX7, TX7, 6, rfl, by decide, Or.inl (am_inT (am_t3 32 rfl) rfl)⟩
theorem am_okF7_3 : am_pF 7 (((22, (7, 3)) : Nat × (Nat × Nat))).1 (((22, (7, 3)) : Nat × (Nat × Nat))).2.1 (((22, (7, 3)) : Nat × (Nat × Nat))).2.2 := ⟨RX7, TX7, 6, rfl, by decide, Or.inl (am_inT (am_t3 33 rfl) rfl)⟩
theorem am_okF7_4 : am_pF 7 (((26, (7, 4)) : Nat × (Nat × Nat))).1 (((26, (7, 4)) : Nat × (Nat × Nat))).2.1 (((26, (7, 4)) : Nat × (Nat × Nat))).2.2 := ⟨RX7, TX7, 6, rfl, by decide, Or.inl (am_inT (am_t3 35 rfl) rfl)⟩
theorem am_okF7_5 : am_pF 7 (((29, (7, 5)) : Nat × (Nat × Nat))).1 (((29, (7, 5)) : Nat × (Nat × Nat))).2.1 (((29, (7, 5)) : Nat × (Nat × Nat))).2.2 := ⟨RX7, TX7, 6, rfl, by decide, Or.inl (am_inT (am_t3 37 rfl) rfl)⟩
theorem am_okF7_6 : am_pF 7 (((58, (8, 5)) : Nat × (Nat × Nat))).1 (((58, (8, 5)) : Nat × (Nat × Nat))).2.1 (((58, (8, 5)) : Nat × (Nat × Nat))).2.2 := ⟨RX8, TX8, 11, rfl, by decide, Or.inr ⟨by decide, "RuleSheets", (am_inN (am_t2 132 rfl) rfl)⟩⟩
theorem am_okF7_7 : am_pF 7 (((63, (8, 1)) : Nat × (Nat × Nat))).1 (((63, (8, 1)) : Nat × (Nat × Nat))).2.1 (((63, (8, 1)) : Nat × (Nat × Nat))).2.2 := ⟨RX8, TX8, 11, rfl, by decide, Or.inr ⟨by decide, "RuleSheets", (am_inN (am_t2 121 rfl) rfl)⟩⟩
theorem am_okF7_8 : am_pF 7 (((66, (8, 2)) : Nat × (Nat × Nat))).1 (((66, (8, 2)) : Nat × (Nat × Nat))).2.1 (((66, (8, 2)) : Nat × (Nat × Nat))).2.2 := ⟨RX8, TX8, 11, rfl, by decide, Or.inr ⟨by decide, "RuleSheets", (am_inN (am_t2 124 rfl) rfl)⟩⟩
theorem am_okF7_9 : am_pF 7 (((69, (8, 3)) : Nat × (Nat × Nat))).1 (((69, (8, 3)) : Nat × (Nat × Nat))).2.1 (((69, (8, 3)) : Nat × (Nat × Nat))).2.2 := ⟨RX8, TX8, 11, rfl, by decide, Or.inr ⟨by decide, "RuleSheets", (am_inN (am_t2 127 rfl) rfl)⟩⟩
theorem am_okF7_10 : am_pF 7 (((76, (8, 10)) : Nat × (Nat × Nat))).1 (((76, (8, 10)) : Nat × (Nat × Nat))).2.1 (((76, (8, 10)) : Nat × (Nat × Nat))).2.2 := ⟨RX8, TX8, 11, rfl, by decide, Or.inr ⟨by decide, "RuleSheets", (am_inN (am_t2 141 rfl) rfl)⟩⟩
theorem am_okF7 : ∀ q ∈ am_tf_7, am_pF 7 (q).1 (q).2.1 (q).2.2 := by
  unfold am_tf_7
  exact List.forall_mem_cons.mpr ⟨am_okF7_0, List.forall_mem_cons.mpr ⟨am_okF7_1, List.forall_mem_cons.mpr ⟨am_okF7_2, List.forall_mem_cons.mpr ⟨am_okF7_3, List.forall_mem_cons.mpr ⟨am_okF7_4, List.forall_mem_cons.mpr ⟨am_okF7_5, List.forall_mem_cons.mpr ⟨am_okF7_6, List.forall_mem_cons.mpr ⟨am_okF7_7, List.forall_mem_cons.mpr ⟨am_okF7_8, List.forall_mem_cons.mpr ⟨am_okF7_9, List.forall_mem_cons.mpr ⟨am_okF7_10, (fun _ h => nomatch h)⟩⟩⟩⟩⟩⟩⟩⟩⟩⟩⟩
theorem am_okF8_0 : am_pF 8 (((11, (8, 1)) : Nat × (Nat × Nat))).1 (((11, (8, 1)) : Nat × (Nat × Nat))).2.1 (((11, (8, 1)) : Nat × (Nat × Nat))).2.2 := ⟨RX8, TX8, 11, rfl, by decide, Or.inl (am_inT (am_t2 120 rfl) rfl)⟩
theorem am_okF8_1 : am_pF 8 (((15, (8, 2)) : Nat × (Nat × Nat))).1 (((15, (8, 2)) : Nat × (Nat × Nat))).2.1 (((15, (8, 2)) : Nat × (Nat × Nat))).2.2 := ⟨RX8, TX8, 11, rfl, by decide, Or.inl (am_inT (am_t2 123 rfl) rfl)⟩
theorem am_okF8_2 : am_pF 8 (((18, (8, 3)) : Nat × (Nat × Nat))).1 (((18, (8, 3)) : Nat × (Nat × Nat))).2.1 (((18, (8, 3)) : Nat × (Nat × Nat))).2.2 := ⟨RX8, TX8, 11, rfl, by decide, Or.inl (am_inT (am_t2 126 rfl) rfl)⟩
theorem am_okF8_3 : am_pF 8 (((21, (8, 4)) : Nat × (Nat × Nat))).1 (((21, (8, 4)) : Nat × (Nat × Nat))).2.1 (((21, (8, 4)) : Nat × (Nat × Nat))).2.2 := ⟨RX8, TX8, 11, rfl, by decide, Or.inl (am_inT (am_t2 129 rfl) rfl)⟩
theorem am_okF8_4 : am_pF 8 (((24, (8, 5)) : Nat × (Nat × Nat))).1 (((24, (8, 5)) : Nat × (Nat × Nat))).2.1 (((24, (8, 5)) : Nat × (Nat × Nat))).2.2 := ⟨RX8, TX8, 11, rfl, by decide, Or.inl (am_inT (am_t2 131 rfl) rfl)⟩
theorem am_okF8_5 : am_pF 8 (((27, (8, 6)) : Nat × (Nat × Nat))).1 (((27, (8, 6)) : Nat × (Nat × Nat))).2.1 (((27, (8, 6)) : Nat × (Nat × Nat))).2.2 := ⟨RX8, TX8, 11, rfl, by decide, Or.inl (am_inT (am_t2 133 rfl) rfl)⟩
theorem am_okF8_6 : am_pF 8 (((30, (8, 7)) : Nat × (Nat × Nat))).1 (((30, (8, 7)) : Nat × (Nat × Nat))).2.1 (((30, (8, 7)) : Nat × (Nat × Nat))).2.2 := ⟨RX8, TX8, 11, rfl, by decide, Or.inl (am_inT (am_t2 134 rfl) rfl)⟩
theorem am_okF8_7 : am_pF 8 (((33, (8, 8)) : Nat × (Nat × Nat))).1 (((33, (8, 8)) : Nat × (Nat × Nat))).2.1 (((33, (8, 8)) : Nat × (Nat × Nat))).2.2 := ⟨RX8, TX8, 11, rfl, by decide, Or.inl (am_inT (am_t2 135 rfl) rfl)⟩
theorem am_okF8_8 : am_pF 8 (((36, (8, 9)) : Nat × (Nat × Nat))).1 (((36, (8, 9)) : Nat × (Nat × Nat))).2.1 (((36, (8, 9)) : Nat × (Nat × Nat))).2.2 := ⟨RX8, TX8, 11, rfl, by decide, Or.inl (am_inT (am_t2 136 rfl) rfl)⟩
theorem am_okF8_9 : am_pF 8 (((40, (8, 10)) : Nat × (Nat × Nat))).1 (((40, (8, 10)) : Nat × (Nat × Nat))).2.1 (((40, (8, 10)) : Nat × (Nat × Nat))).2.2 := ⟨RX8, TX8, 11, rfl, by decide, Or.inl (am_inT (am_t2 139 rfl) rfl)⟩
theorem am_okF8_10 : am_pF 8 (((43, (8, 0)) : Nat × (Nat × Nat))).1 (((43, (8, 0)) : Nat × (Nat × Nat))).2.1 (((43, (8, 0)) : Nat × (Nat × Nat))).2.2 := ⟨RX8, TX8, 11, rfl, by decide, Or.inl (am_inT (am_t2 119 rfl) rfl)⟩
theorem am_okF8_11 : am_pF 8 (((72, (3, 2)) : Nat × (Nat × Nat))).1 (((72, (3, 2)) : Nat × (Nat × Nat))).2.1 (((72, (3, 2)) : Nat × (Nat × Nat))).2.2 := ⟨RX3, TX3, 5, rfl, by decide, Or.inr ⟨by decide, "RuleSheets", (am_inN (am_t1 136 rfl) rfl)⟩⟩
theorem am_okF8 : ∀ q ∈ am_tf_8, am_pF 8 (q).1 (q).2.1 (q).2.2 := by
  unfold am_tf_8
  exact List.forall_mem_cons.mpr ⟨am_okF8_0, List.forall_mem_cons.mpr ⟨am_okF8_1, List.forall_mem_cons.mpr ⟨am_okF8_2, List.forall_mem_cons.mpr ⟨am_okF8_3, List.forall_mem_cons.mpr ⟨am_okF8_4, List.forall_mem_cons.mpr ⟨am_okF8_5, List.forall_mem_cons.mpr ⟨am_okF8_6, List.forall_mem_cons.mpr ⟨am_okF8_7, List.forall_mem_cons.mpr ⟨am_okF8_8, List.forall_mem_cons.mpr ⟨am_okF8_9, List.forall_mem_cons.mpr ⟨am_okF8_10, List.forall_mem_cons.mpr ⟨am_okF8_11, (fun _ h => nomatch h)⟩⟩⟩⟩⟩⟩⟩⟩⟩⟩⟩⟩
theorem am_okF9_0 : am_pF 9 (((9, (9, 0)) : Nat × (Nat × Nat))).1 (((9, (9, 0)) : Nat × (Nat × Nat))).2.1 (((9, (9, 0)) : Nat × (Nat × Nat))).2.2 := ⟨RX9, TX9, 6, rfl, by decide, Or.inl (am_inT (am_t1 43 rfl) rfl)⟩
theorem am_okF9_1 : am_pF 9 (((15, (9, 1)) : Nat × (Nat × Nat))).1 (((15, (9, 1)) : Nat × (Nat × Nat))).2.1 (((15, (9, 1)) : Nat × (Nat × Nat))).2.2 := ⟨RX9, TX9, 6, rfl, by decide, Or.inl (am_inT (am_t1 45 rfl) rfl)⟩
theorem am_okF9_2 : am_pF 9 (((18, (9, 2)) : Nat × (Nat × Nat))).1 (((18, (9, 2)) : Nat × (Nat × Nat))).2.1 (((18, (9, 2)) : Nat × (Nat × Nat))).2.2 := ⟨RX9, TX9, 6, rfl, by decide, Or.inl (am_inT (am_t1 47 rfl) rfl)⟩
theorem am_okF9_3 : am_pF 9 (((21, (9, 3)) : Nat × (Nat × Nat))).1 (((21, (9, 3)) : Nat × (Nat × Nat))).2.1 (((21, (9, 3)) : Nat × (Nat × Nat))).2.2 := ⟨RX9, TX9, 6, rfl, by decide, Or.inl (am_inT (am_t1 49 rfl) rfl)⟩
theorem am_okF9_4 : am_pF 9 (((25, (9, 5)) : Nat × (Nat × Nat))).1 (((25, (9, 5)) : Nat × (Nat × Nat))).2.1 (((25, (9, 5)) : Nat × (Nat × Nat))).2.2 := ⟨RX9, TX9, 6, rfl, by decide, Or.inl (am_inT (am_t1 51 rfl) rfl)⟩
theorem am_okF9_5 : am_pF 9 (((28, (9, 4)) : Nat × (Nat × Nat))).1 (((28, (9, 4)) : Nat × (Nat × Nat))).2.1 (((28, (9, 4)) : Nat × (Nat × Nat))).2.2 := ⟨RX9, TX9, 6, rfl, by decide, Or.inl (am_inT (am_t1 50 rfl) rfl)⟩
theorem am_okF9 : ∀ q ∈ am_tf_9, am_pF 9 (q).1 (q).2.1 (q).2.2 := by
  unfold am_tf_9
  exact List.forall_mem_cons.mpr ⟨am_okF9_0, List.forall_mem_cons.mpr ⟨am_okF9_1, List.forall_mem_cons.mpr ⟨am_okF9_2, List.forall_mem_cons.mpr ⟨am_okF9_3, List.forall_mem_cons.mpr ⟨am_okF9_4, List.forall_mem_cons.mpr ⟨am_okF9_5, (fun _ h => nomatch h)⟩⟩⟩⟩⟩⟩
theorem am_okF10_0 : am_pF 10 (((9, (10, 0)) : Nat × (Nat × Nat))).1 (((9, (10, 0)) : Nat × (Nat × Nat))).2.1 (((9, (10, 0)) : Nat × (Nat × Nat))).2.2 := ⟨RX10, TX10, 6, rfl, by decide, Or.inl (am_inT (am_t2 233 rfl) rfl)⟩
theorem am_okF10_1 : am_pF 10 (((15, (10, 1)) : Nat × (Nat × Nat))).1 (((15, (10, 1)) : Nat × (Nat × Nat))).2.1 (((15, (10, 1)) : Nat × (Nat × Nat))).2.2 := ⟨RX10, TX10, 6, rfl, by decide, Or.inl (am_inT (am_t2 235 rfl) rfl)⟩
theorem am_okF10_2 : am_pF 10 (((18, (10, 2)) : Nat × (Nat × Nat))).1 (((18, (10, 2)) : Nat × (Nat × Nat))).2.1 (((18, (10, 2)) : Nat × (Nat × Nat))).2.2 := ⟨RX10, TX10, 6, rfl, by decide, Or.inl (am_inT (am_t2 236 rfl) rfl)⟩
theorem am_okF10_3 : am_pF 10 (((21, (10, 3)) : Nat × (Nat × Nat))).1 (((21, (10, 3)) : Nat × (Nat × Nat))).2.1 (((21, (10, 3)) : Nat × (Nat × Nat))).2.2 := ⟨RX10, TX10, 6, rfl, by decide, Or.inl (am_inT (am_t2 239 rfl) rfl)⟩
theorem am_okF10_4 : am_pF 10 (((25, (10, 4)) : Nat × (Nat × Nat))).1 (((25, (10, 4)) : Nat × (Nat × Nat))).2.1 (((25, (10, 4)) : Nat × (Nat × Nat))).2.2 := ⟨RX10, TX10, 6, rfl, by decide, Or.inl (am_inT (am_t3 2 rfl) rfl)⟩
theorem am_okF10_5 : am_pF 10 (((29, (10, 5)) : Nat × (Nat × Nat))).1 (((29, (10, 5)) : Nat × (Nat × Nat))).2.1 (((29, (10, 5)) : Nat × (Nat × Nat))).2.2 := ⟨RX10, TX10, 6, rfl, by decide, Or.inl (am_inT (am_t3 3 rfl) rfl)⟩
theorem am_okF10_6 : am_pF 10 (((32, (2, 4)) : Nat × (Nat × Nat))).1 (((32, (2, 4)) : Nat × (Nat × Nat))).2.1 (((32, (2, 4)) : Nat × (Nat × Nat))).2.2 := ⟨RX2, TX2, 17, rfl, by decide, Or.inr ⟨by decide, "RuleSheets", (am_inN (am_t2 175 rfl) rfl)⟩⟩
theorem am_okF10_7 : am_pF 10 (((37, (2, 1)) : Nat × (Nat × Nat))).1 (((37, (2, 1)) : Nat × (Nat × Nat))).2.1 (((37, (2, 1)) : Nat × (Nat × Nat))).2.2 := ⟨RX2, TX2, 17, rfl, by decide, Or.inr ⟨by decide, "RuleSheets", (am_inN (am_t2 169 rfl) rfl)⟩⟩
theorem am_okF10_8 : am_pF 10 (((41, (1, 6)) : Nat × (Nat × Nat))).1 (((41, (1, 6)) : Nat × (Nat × Nat))).2.1 (((41, (1, 6)) : Nat × (Nat × Nat))).2.2 := ⟨RX1, TX1, 9, rfl, by decide, Or.inr ⟨by decide, "RuleSheets", (am_inN (am_t2 88 rfl) rfl)⟩⟩
theorem am_okF10_9 : am_pF 10 (((53, (1, 5)) : Nat × (Nat × Nat))).1 (((53, (1, 5)) : Nat × (Nat × Nat))).2.1 (((53, (1, 5)) : Nat × (Nat × Nat))).2.2 := ⟨RX1, TX1, 9, rfl, by decide, Or.inr ⟨by decide, "RuleSheets", (am_inN (am_t2 85 rfl) rfl)⟩⟩
theorem am_okF10_10 : am_pF 10 (((56, (1, 1)) : Nat × (Nat × Nat))).1 (((56, (1, 1)) : Nat × (Nat × Nat))).2.1 (((56, (1, 1)) : Nat × (Nat × Nat))).2.2 := ⟨RX1, TX1, 9, rfl, by decide, Or.inr ⟨by decide, "RuleSheets", (am_inN (am_t2 77 rfl) rfl)⟩⟩
theorem am_okF10_11 : am_pF 10 (((59, (2, 3)) : Nat × (Nat × Nat))).1 (((59, (2, 3)) : Nat × (Nat × Nat))).2.1 (((59, (2, 3)) : Nat × (Nat × Nat))).2.2 := ⟨RX2, TX2, 17, rfl, by decide, Or.inr ⟨by decide, "RuleSheets", (am_inN (am_t2 172 rfl) rfl)⟩⟩
theorem am_okF10_12 : am_pF 10 (((61, (2, 0)) : Nat × (Nat × Nat))).1 (((61, (2, 0)) : Nat × (Nat × Nat))).2.1 (((61, (2, 0)) : Nat × (Nat × Nat))).2.2 := ⟨RX2, TX2, 17, rfl, by decide, Or.inr ⟨by decide, "RuleSheets", (am_inN (am_t2 166 rfl) rfl)⟩⟩
theorem am_okF10_13 : am_pF 10 (((71, (1, 2)) : Nat × (Nat × Nat))).1 (((71, (1, 2)) : Nat × (Nat × Nat))).2.1 (((71, (1, 2)) : Nat × (Nat × Nat))).2.2 := ⟨RX1, TX1, 9, rfl, by decide, Or.inr ⟨by decide, "RuleSheets", (am_inN (am_t2 80 rfl) rfl)⟩⟩
theorem am_okF10 : ∀ q ∈ am_tf_10, am_pF 10 (q).1 (q).2.1 (q).2.2 := by
  unfold am_tf_10
  exact List.forall_mem_cons.mpr ⟨am_okF10_0, List.forall_mem_cons.mpr ⟨am_okF10_1, List.forall_mem_cons.mpr ⟨am_okF10_2, List.forall_mem_cons.mpr ⟨am_okF10_3, List.forall_mem_cons.mpr ⟨am_okF10_4, List.forall_mem_cons.mpr ⟨am_okF10_5, List.forall_mem_cons.mpr ⟨am_okF10_6, List.forall_mem_cons.mpr ⟨am_okF10_7, List.forall_mem_cons.mpr ⟨am_okF10_8, List.forall_mem_cons.mpr ⟨am_okF10_9, List.forall_mem_cons.mpr ⟨am_okF10_10, List.forall_mem_cons.mpr ⟨am_okF10_11, List.forall_mem_cons.mpr ⟨am_okF10_12, List.forall_mem_cons.mpr ⟨am_okF10_13, (fun _ h => nomatch h)⟩⟩⟩⟩⟩⟩⟩⟩⟩⟩⟩⟩⟩⟩
theorem am_okF11_0 : am_pF 11 (((9, (11, 0)) : Nat × (Nat × Nat))).1 (((9, (11, 0)) : Nat × (Nat × Nat))).2.1 (((9, (11, 0)) : Nat × (Nat × Nat))).2.2 := ⟨RX11, TX11, 19, rfl, by decide, Or.inl (am_inT (am_t3 114 rfl) rfl)⟩
theorem am_okF11_1 : am_pF 11 (((13, (11, 1)) : Nat × (Nat × Nat))).1 (((13, (11, 1)) : Nat × (Nat × Nat))).2.1 (((13, (11, 1)) : Nat × (Nat × Nat))).2.2 := ⟨RX11, TX11, 19, rfl, by decide, Or.inl (am_inT (am_t3 115 rfl) rfl)⟩
theorem am_okF11_2 : am_pF 11 (((17, (11, 2)) : Nat × (Nat × Nat))).1 (((17, (11, 2)) : Nat × (Nat × Nat))).2.1 (((17, (11, 2)) : Nat × (Nat × Nat))).2.2 := ⟨RX11, TX11, 19, rfl, by decide, Or.inl (am_inT (am_t3 116 rfl) rfl)⟩
theorem am_okF11_3 : am_pF 11 (((25, (11, 3)) : Nat × (Nat × Nat))).1 (((25, (11, 3)) : Nat × (Nat × Nat))).2.1 (((25, (11, 3)) : Nat × (Nat × Nat))).2.2 := ⟨RX11, TX11, 19, rfl, by decide, Or.inl (am_inT (am_t3 117 rfl) rfl)⟩
theorem am_okF11_4 : am_pF 11 (((32, (11, 4)) : Nat × (Nat × Nat))).1 (((32, (11, 4)) : Nat × (Nat × Nat))).2.1 (((32, (11, 4)) : Nat × (Nat × Nat))).2.2 := ⟨RX11, TX11, 19, rfl, by decide, Or.inl (am_inT (am_t3 118 rfl) rfl)⟩
theorem am_okF11_5 : am_pF 11 (((36, (11, 5)) : Nat × (Nat × Nat))).1 (((36, (11, 5)) : Nat × (Nat × Nat))).2.1 (((36, (11, 5)) : Nat × (Nat × Nat))).2.2 := ⟨RX11, TX11, 19, rfl, by decide, Or.inl (am_inT (am_t3 119 rfl) rfl)⟩
theorem am_okF11_6 : am_pF 11 (((39, (11, 6)) : Nat × (Nat × Nat))).1 (((39, (11, 6)) : Nat × (Nat × Nat))).2.1 (((39, (11, 6)) : Nat × (Nat × Nat))).2.2 := ⟨RX11, TX11, 19, rfl, by decide, Or.inl (am_inT (am_t3 120 rfl) rfl)⟩
theorem am_okF11_7 : am_pF 11 (((48, (11, 7)) : Nat × (Nat × Nat))).1 (((48, (11, 7)) : Nat × (Nat × Nat))).2.1 (((48, (11, 7)) : Nat × (Nat × Nat))).2.2 := ⟨RX11, TX11, 19, rfl, by decide, Or.inl (am_inT (am_t3 121 rfl) rfl)⟩
theorem am_okF11_8 : am_pF 11 (((57, (11, 8)) : Nat × (Nat × Nat))).1 (((57, (11, 8)) : Nat × (Nat × Nat))).2.1 (((57, (11, 8)) : Nat × (Nat × Nat))).2.2 := ⟨RX11, TX11, 19, rfl, by decide, Or.inl (am_inT (am_t3 122 rfl) rfl)⟩
theorem am_okF11_9 : am_pF 11 (((64, (11, 9)) : Nat × (Nat × Nat))).1 (((64, (11, 9)) : Nat × (Nat × Nat))).2.1 (((64, (11, 9)) : Nat × (Nat × Nat))).2.2 := ⟨RX11, TX11, 19, rfl, by decide, Or.inl (am_inT (am_t3 123 rfl) rfl)⟩
theorem am_okF11_10 : am_pF 11 (((68, (11, 10)) : Nat × (Nat × Nat))).1 (((68, (11, 10)) : Nat × (Nat × Nat))).2.1 (((68, (11, 10)) : Nat × (Nat × Nat))).2.2 := ⟨RX11, TX11, 19, rfl, by decide, Or.inl (am_inT (am_t3 124 rfl) rfl)⟩
theorem am_okF11_11 : am_pF 11 (((72, (11, 11)) : Nat × (Nat × Nat))).1 (((72, (11, 11)) : Nat × (Nat × Nat))).2.1 (((72, (11, 11)) : Nat × (Nat × Nat))).2.2 := ⟨RX11, TX11, 19, rfl, by decide, Or.inl (am_inT (am_t3 125 rfl) rfl)⟩
theorem am_okF11_12 : am_pF 11 (((75, (11, 12)) : Nat × (Nat × Nat))).1 (((75, (11, 12)) : Nat × (Nat × Nat))).2.1 (((75, (11, 12)) : Nat × (Nat × Nat))).2.2 := ⟨RX11, TX11, 19, rfl, by decide, Or.inl (am_inT (am_t3 126 rfl) rfl)⟩
theorem am_okF11_13 : am_pF 11 (((81, (11, 13)) : Nat × (Nat × Nat))).1 (((81, (11, 13)) : Nat × (Nat × Nat))).2.1 (((81, (11, 13)) : Nat × (Nat × Nat))).2.2 := ⟨RX11, TX11, 19, rfl, by decide, Or.inl (am_inT (am_t3 127 rfl) rfl)⟩
theorem am_okF11_14 : am_pF 11 (((85, (11, 14)) : Nat × (Nat × Nat))).1 (((85, (11, 14)) : Nat × (Nat × Nat))).2.1 (((85, (11, 14)) : Nat × (Nat × Nat))).2.2 := ⟨RX11, TX11, 19, rfl, by decide, Or.inl (am_inT (am_t3 128 rfl) rfl)⟩
theorem am_okF11_15 : am_pF 11 (((88, (11, 15)) : Nat × (Nat × Nat))).1 (((88, (11, 15)) : Nat × (Nat × Nat))).2.1 (((88, (11, 15)) : Nat × (Nat × Nat))).2.2 := ⟨RX11, TX11, 19, rfl, by decide, Or.inl (am_inT (am_t3 129 rfl) rfl)⟩
theorem am_okF11_16 : am_pF 11 (((94, (11, 16)) : Nat × (Nat × Nat))).1 (((94, (11, 16)) : Nat × (Nat × Nat))).2.1 (((94, (11, 16)) : Nat × (Nat × Nat))).2.2 := ⟨RX11, TX11, 19, rfl, by decide, Or.inl (am_inT (am_t3 130 rfl) rfl)⟩
theorem am_okF11_17 : am_pF 11 (((98, (11, 17)) : Nat × (Nat × Nat))).1 (((98, (11, 17)) : Nat × (Nat × Nat))).2.1 (((98, (11, 17)) : Nat × (Nat × Nat))).2.2 := ⟨RX11, TX11, 19, rfl, by decide, Or.inl (am_inT (am_t3 131 rfl) rfl)⟩
theorem am_okF11_18 : am_pF 11 (((101, (11, 18)) : Nat × (Nat × Nat))).1 (((101, (11, 18)) : Nat × (Nat × Nat))).2.1 (((101, (11, 18)) : Nat × (Nat × Nat))).2.2 := ⟨RX11, TX11, 19, rfl, by decide, Or.inl (am_inT (am_t3 132 rfl) rfl)⟩
theorem am_okF11_19 : am_pF 11 (((122, (5, 0)) : Nat × (Nat × Nat))).1 (((122, (5, 0)) : Nat × (Nat × Nat))).2.1 (((122, (5, 0)) : Nat × (Nat × Nat))).2.2 := ⟨RX5, TX5, 19, rfl, by decide, Or.inl (am_inT (am_t1 153 rfl) rfl)⟩
theorem am_okF11_20 : am_pF 11 (((137, (0, 0)) : Nat × (Nat × Nat))).1 (((137, (0, 0)) : Nat × (Nat × Nat))).2.1 (((137, (0, 0)) : Nat × (Nat × Nat))).2.2 := ⟨RX0, TX0, 7, rfl, by decide, Or.inr ⟨by decide, "RuleSheets", (am_inN (am_t2 38 rfl) rfl)⟩⟩
theorem am_okF11_21 : am_pF 11 (((148, (5, 13)) : Nat × (Nat × Nat))).1 (((148, (5, 13)) : Nat × (Nat × Nat))).2.1 (((148, (5, 13)) : Nat × (Nat × Nat))).2.2 := ⟨RX5, TX5, 19, rfl, by decide, Or.inl (am_inT (am_t1 191 rfl) rfl)⟩
theorem am_okF11_22 : am_pF 11 (((151, (2, 4)) : Nat × (Nat × Nat))).1 (((151, (2, 4)) : Nat × (Nat × Nat))).2.1 (((151, (2, 4)) : Nat × (Nat × Nat))).2.2 := ⟨RX2, TX2, 17, rfl, by decide, Or.inr ⟨by decide, "RuleSheets", (am_inN (am_t2 176 rfl) rfl)⟩⟩
theorem am_okF11_23 : am_pF 11 (((157, (2, 0)) : Nat × (Nat × Nat))).1 (((157, (2, 0)) : Nat × (Nat × Nat))).2.1 (((157, (2, 0)) : Nat × (Nat × Nat))).2.2 := ⟨RX2, TX2, 17, rfl, by decide, Or.inr ⟨by decide, "RuleSheets", (am_inN (am_t2 167 rfl) rfl)⟩⟩
theorem am_okF11_24 : am_pF 11 (((161, (2, 15)) : Nat × (Nat × Nat))).1 (((161, (2, 15)) : Nat × (Nat × Nat))).2.1 (((161, (2, 15)) : Nat × (Nat × Nat))).2.2 := ⟨RX2, TX2, 17, rfl, by decide, Or.inr ⟨by decide, "RuleSheets", (am_inN (am_t2 189 rfl) rfl)⟩⟩
theorem am_okF11_25 : am_pF 11 (((170, (10, 5)) : Nat × (Nat × Nat))).1 (((170, (10, 5)) : Nat × (Nat × Nat))).2.1 (((170, (10, 5)) : Nat × (Nat × Nat))).2.2 := ⟨RX10, TX10, 6, rfl, by decide, Or.inr ⟨by decide, "RuleSheets", (am_inN (am_t3 4 rfl) rfl)⟩⟩
theorem am_okF11_26 : am_pF 11 (((193, (10, 3)) : Nat × (Nat × Nat))).1 (((193, (10, 3)) : Nat × (Nat × Nat))).2.1 (((193, (10, 3)) : Nat × (Nat × Nat))).2.2 := ⟨RX10, TX10, 6, rfl, by decide, Or.inr ⟨by decide, "RuleSheets", (am_inN (am_t3 1 rfl) rfl)⟩⟩
theorem am_okF11_27 : am_pF 11 (((196, (10, 2)) : Nat × (Nat × Nat))).1 (((196, (10, 2)) : Nat × (Nat × Nat))).2.1 (((196, (10, 2)) : Nat × (Nat × Nat))).2.2 := ⟨RX10, TX10, 6, rfl, by decide, Or.inr ⟨by decide, "RuleSheets", (am_inN (am_t2 238 rfl) rfl)⟩⟩
theorem am_okF11_28 : am_pF 11 (((219, (2, 3)) : Nat × (Nat × Nat))).1 (((219, (2, 3)) : Nat × (Nat × Nat))).2.1 (((219, (2, 3)) : Nat × (Nat × Nat))).2.2 := ⟨RX2, TX2, 17, rfl, by decide, Or.inr ⟨by decide, "RuleSheets", (am_inN (am_t2 173 rfl) rfl)⟩⟩
theorem am_okF11_29 : am_pF 11 (((235, (6, 1)) : Nat × (Nat × Nat))).1 (((235, (6, 1)) : Nat × (Nat × Nat))).2.1 (((235, (6, 1)) : Nat × (Nat × Nat))).2.2 := ⟨RX6, TX6, 17, rfl, by decide, Or.inr ⟨by decide, "RuleSheets", (am_inN (am_t3 54 rfl) rfl)⟩⟩
theorem am_okF11_30 : am_pF 11 (((249, (6, 13)) : Nat × (Nat × Nat))).1 (((249, (6, 13)) : Nat × (Nat × Nat))).2.1 (((249, (6, 13)) : Nat × (Nat × Nat))).2.2 := ⟨RX6, TX6, 17, rfl, by decide, Or.inr ⟨by decide, "RuleSheets", (am_inN (am_t3 74 rfl) rfl)⟩⟩
theorem am_okF11_31 : am_pF 11 (((252, (6, 14)) : Nat × (Nat × Nat))).1 (((252, (6, 14)) : Nat × (Nat × Nat))).2.1 (((252, (6, 14)) : Nat × (Nat × Nat))).2.2 := ⟨RX6, TX6, 17, rfl, by decide, Or.inr ⟨by decide, "RuleSheets", (am_inN (am_t3 76 rfl) rfl)⟩⟩
theorem am_okF11_32 : am_pF 11 (((258, (6, 3)) : Nat × (Nat × Nat))).1 (((258, (6, 3)) : Nat × (Nat × Nat))).2.1 (((258, (6, 3)) : Nat × (Nat × Nat))).2.2 := ⟨RX6, TX6, 17, rfl, by decide, Or.inr ⟨by decide, "RuleSheets", (am_inN (am_t3 58 rfl) rfl)⟩⟩
theorem am_okF11_33 : am_pF 11 (((261, (6, 4)) : Nat × (Nat × Nat))).1 (((261, (6, 4)) : Nat × (Nat × Nat))).2.1 (((261, (6, 4)) : Nat × (Nat × Nat))).2.2 := ⟨RX6, TX6, 17, rfl, by decide, Or.inr ⟨by decide, "RuleSheets", (am_inN (am_t3 60 rfl) rfl)⟩⟩
theorem am_okF11_34 : am_pF 11 (((264, (6, 5)) : Nat × (Nat × Nat))).1 (((264, (6, 5)) : Nat × (Nat × Nat))).2.1 (((264, (6, 5)) : Nat × (Nat × Nat))).2.2 := ⟨RX6, TX6, 17, rfl, by decide, Or.inr ⟨by decide, "RuleSheets", (am_inN (am_t3 62 rfl) rfl)⟩⟩
theorem am_okF11_35 : am_pF 11 (((267, (6, 6)) : Nat × (Nat × Nat))).1 (((267, (6, 6)) : Nat × (Nat × Nat))).2.1 (((267, (6, 6)) : Nat × (Nat × Nat))).2.2 := ⟨RX6, TX6, 17, rfl, by decide, Or.inr ⟨by decide, "RuleSheets", (am_inN (am_t3 64 rfl) rfl)⟩⟩
theorem am_okF11_36 : am_pF 11 (((273, (6, 11)) : Nat × (Nat × Nat))).1 (((273, (6, 11)) : Nat × (Nat × Nat))).2.1 (((273, (6, 11)) : Nat × (Nat × Nat))).2.2 := ⟨RX6, TX6, 17, rfl, by decide, Or.inr ⟨by decide, "RuleSheets", (am_inN (am_t3 70 rfl) rfl)⟩⟩
theorem am_okF11_37 : am_pF 11 (((276, (6, 12)) : Nat × (Nat × Nat))).1 (((276, (6, 12)) : Nat × (Nat × Nat))).2.1 (((276, (6, 12)) : Nat × (Nat × Nat))).2.2 := ⟨RX6, TX6, 17, rfl, by decide, Or.inr ⟨by decide, "RuleSheets", (am_inN (am_t3 72 rfl) rfl)⟩⟩
theorem am_okF11_38 : am_pF 11 (((298, (10, 0)) : Nat × (Nat × Nat))).1 (((298, (10, 0)) : Nat × (Nat × Nat))).2.1 (((298, (10, 0)) : Nat × (Nat × Nat))).2.2 := ⟨RX10, TX10, 6, rfl, by decide, Or.inr ⟨by decide, "RuleSheets", (am_inN (am_t2 234 rfl) rfl)⟩⟩
theorem am_okF11_39 : am_pF 11 (((309, (8, 9)) : Nat × (Nat × Nat))).1 (((309, (8, 9)) : Nat × (Nat × Nat))).2.1 (((309, (8, 9)) : Nat × (Nat × Nat))).2.2 := ⟨RX8, TX8, 11, rfl, by decide, Or.inr ⟨by decide, "RuleSheets", (am_inN (am_t2 138 rfl) rfl)⟩⟩
theorem am_okF11_40 : am_pF 11 (((314, (2, 14)) : Nat × (Nat × Nat))).1 (((314, (2, 14)) : Nat × (Nat × Nat))).2.1 (((314, (2, 14)) : Nat × (Nat × Nat))).2.2 := ⟨RX2, TX2, 17, rfl, by decide, Or.inr ⟨by decide, "RuleSheets", (am_inN (am_t2 187 rfl) rfl)⟩⟩
theorem am_okF11_41 : am_pF 11 (((321, (2, 16)) : Nat × (Nat × Nat))).1 (((321, (2, 16)) : Nat × (Nat × Nat))).2.1 (((321, (2, 16)) : Nat × (Nat × Nat))).2.2 := ⟨RX2, TX2, 17, rfl, by decide, Or.inr ⟨by decide, "RuleSheets", (am_inN (am_t2 191 rfl) rfl)⟩⟩
theorem am_okF11_42 : am_pF 11 (((326, (6, 2)) : Nat × (Nat × Nat))).1 (((326, (6, 2)) : Nat × (Nat × Nat))).2.1 (((326, (6, 2)) : Nat × (Nat × Nat))).2.2 := ⟨RX6, TX6, 17, rfl, by decide, Or.inr ⟨by decide, "RuleSheets", (am_inN (am_t3 56 rfl) rfl)⟩⟩
theorem am_okF11_43 : am_pF 11 (((330, (7, 4)) : Nat × (Nat × Nat))).1 (((330, (7, 4)) : Nat × (Nat × Nat))).2.1 (((330, (7, 4)) : Nat × (Nat × Nat))).2.2 := ⟨RX7, TX7, 6, rfl, by decide, Or.inr ⟨by decide, "RuleSheets", (am_inN (am_t3 36 rfl) rfl)⟩⟩
theorem am_okF11 : ∀ q ∈ am_tf_11, am_pF 11 (q).1 (q).2.1 (q).2.2 := by
  unfold am_tf_11
  exact List.forall_mem_cons.mpr ⟨am_okF11_0, List.forall_mem_cons.mpr ⟨am_okF11_1, List.forall_mem_cons.mpr ⟨am_okF11_2, List.forall_mem_cons.mpr ⟨am_okF11_3, List.forall_mem_cons.mpr ⟨am_okF11_4, List.forall_mem_cons.mpr ⟨am_okF11_5, List.forall_mem_cons.mpr ⟨am_okF11_6, List.forall_mem_cons.mpr ⟨am_okF11_7, List.forall_mem_cons.mpr ⟨am_okF11_8, List.forall_mem_cons.mpr ⟨am_okF11_9, List.forall_mem_cons.mpr ⟨am_okF11_10, List.forall_mem_cons.mpr ⟨am_okF11_11, List.forall_mem_cons.mpr ⟨am_okF11_12, List.forall_mem_cons.mpr ⟨am_okF11_13, List.forall_mem_cons.mpr ⟨am_okF11_14, List.forall_mem_cons.mpr ⟨am_okF11_15, List.forall_mem_cons.mpr ⟨am_okF11_16, List.forall_mem_cons.mpr ⟨am_okF11_17, List.forall_mem_cons.mpr ⟨am_okF11_18, List.forall_mem_cons.mpr ⟨am_okF11_19, List.forall_mem_cons.mpr ⟨am_okF11_20, List.forall_mem_cons.mpr ⟨am_okF11_21, List.forall_mem_cons.mpr ⟨am_okF11_22, List.forall_mem_cons.mpr ⟨am_okF11_23, List.forall_mem_cons.mpr ⟨am_okF11_24, List.forall_mem_cons.mpr ⟨am_okF11_25, List.forall_mem_cons.mpr ⟨am_okF11_26, List.forall_mem_cons.mpr ⟨am_okF11_27, List.forall_mem_cons.mpr ⟨am_okF11_28, List.forall_mem_cons.mpr ⟨am_okF11_29, List.forall_mem_cons.mpr ⟨am_okF11_30, List.forall_mem_cons.mpr ⟨am_okF11_31, List.forall_mem_cons.mpr ⟨am_okF11_32, List.forall_mem_cons.mpr ⟨am_okF11_33, List.forall_mem_cons.mpr ⟨am_okF11_34, List.forall_mem_cons.mpr ⟨am_okF11_35, List.forall_mem_cons.mpr ⟨am_okF11_36, List.forall_mem_cons.mpr ⟨am_okF11_37, List.forall_mem_cons.mpr ⟨am_okF11_38, List.forall_mem_cons.mpr ⟨am_okF11_39, List.forall_mem_cons.mpr ⟨am_okF11_40, List.forall_mem_cons.mpr ⟨am_okF11_41, List.forall_mem_cons.mpr ⟨am_okF11_42, List.forall_mem_cons.mpr ⟨am_okF11_43, (fun _ h => nomatch h)⟩⟩⟩⟩⟩⟩⟩⟩⟩⟩⟩⟩⟩⟩⟩⟩⟩⟩⟩⟩⟩⟩⟩⟩⟩⟩⟩⟩⟩⟩⟩⟩⟩⟩⟩⟩⟩⟩⟩⟩⟩⟩⟩⟩
theorem am_okF12_0 : am_pF 12 (((7, (12, 1)) : Nat × (Nat × Nat))).1 (((7, (12, 1)) : Nat × (Nat × Nat))).2.1 (((7, (12, 1)) : Nat × (Nat × Nat))).2.2 := ⟨RX12, TX12, 94, rfl, by decide, Or.inl (am_inT (am_t7 29 rfl) rfl)⟩
theorem am_okF12_1 : am_pF 12 (((13, (12, 3)) : Nat × (Nat × Nat))).1 (((13, (12, 3)) : Nat × (Nat × Nat))).2.1 (((13, (12, 3)) : Nat × (Nat × Nat))).2.2 := ⟨RX12, TX12, 94, rfl, by decide, Or.inl (am_inT (am_t7 31 rfl) rfl)⟩
theorem am_okF12_2 : am_pF 12 (((17, (12, 5)) : Nat × (Nat × Nat))).1 (((17, (12, 5)) : Nat × (Nat × Nat))).2.1 (((17, (12, 5)) : Nat × (Nat × Nat))).2.2 := ⟨RX12, TX12, 94, rfl, by decide, Or.inl (am_inT (am_t7 33 rfl) rfl)⟩
theorem am_okF12_3 : am_pF 12 (((20, (12, 7)) : Nat × (Nat × Nat))).1 (((20, (12, 7)) : Nat × (Nat × Nat))).2.1 (((20, (12, 7)) : Nat × (Nat × Nat))).2.2 := ⟨RX12, TX12, 94, rfl, by decide, Or.inl (am_inT (am_t7 35 rfl) rfl)⟩
theorem am_okF12_4 : am_pF 12 (((23, (12, 10)) : Nat × (Nat × Nat))).1 (((23, (12, 10)) : Nat × (Nat × Nat))).2.1 (((23, (12, 10)) : Nat × (Nat × Nat))).2.2 := ⟨RX12, TX12, 94, rfl, by decide, Or.inl (am_inT (am_t7 38 rfl) rfl)⟩
theorem am_okF12_5 : am_pF 12 (((26, (12, 11)) : Nat × (Nat × Nat))).1 (((26, (12, 11)) : Nat × (Nat × Nat))).2.1 (((26, (12, 11)) : Nat × (Nat × Nat))).2.2 := ⟨RX12, TX12, 94, rfl, by decide, Or.inl (am_inT (am_t7 39 rfl) rfl)⟩
theorem am_okF12_6 : am_pF 12 (((29, (12, 13)) : Nat × (Nat × Nat))).1 (((29, (12, 13)) : Nat × (Nat × Nat))).2.1 (((29, (12, 13)) : Nat × (Nat × Nat))).2.2 := ⟨RX12, TX12, 94, rfl, by decide, Or.inl (am_inT (am_t7 41 rfl) rfl)⟩
theorem am_okF12_7 : am_pF 12 (((32, (12, 14)) : Nat × (Nat × Nat))).1 (((32, (12, 14)) : Nat × (Nat × Nat))).2.1 (((32, (12, 14)) : Nat × (Nat × Nat))).2.2 := ⟨RX12, TX12, 94, rfl, by decide, Or.inl (am_inT (am_t7 42 rfl) rfl)⟩
theorem am_okF12_8 : am_pF 12 (((35, (12, 16)) : Nat × (Nat × Nat))).1 (((35, (12, 16)) : Nat × (Nat × Nat))).2.1 (((35, (12, 16)) : Nat × (Nat × Nat))).2.2 := ⟨RX12, TX12, 94, rfl, by decide, Or.inl (am_inT (am_t7 44 rfl) rfl)⟩
theorem am_okF12_9 : am_pF 12 (((38, (12, 17)) : Nat × (Nat × Nat))).1 (((38, (12, 17)) : Nat × (Nat × Nat))).2.1 (((38, (12, 17)) : Nat × (Nat × Nat))).2.2 := ⟨RX12, TX12, 94, rfl, by decide, Or.inl (am_inT (am_t7 45 rfl) rfl)⟩
theorem am_okF12_10 : am_pF 12 (((41, (12, 19)) : Nat × (Nat × Nat))).1 (((41, (12, 19)) : Nat × (Nat × Nat))).2.1 (((41, (12, 19)) : Nat × (Nat × Nat))).2.2 := ⟨RX12, TX12, 94, rfl, by decide, Or.inl (am_inT (am_t7 47 rfl) rfl)⟩
theorem am_okF12_11 : am_pF 12 (((44, (12, 20)) : Nat × (Nat × Nat))).1 (((44, (12, 20)) : Nat × (Nat × Nat))).2.1 (((44, (12, 20)) : Nat × (Nat × Nat))).2.2 := ⟨RX12, TX12, 94, rfl, by decide, Or.inl (am_inT (am_t7 48 rfl) rfl)⟩
theorem am_okF12_12 : am_pF 12 (((47, (12, 21)) : Nat × (Nat × Nat))).1 (((47, (12, 21)) : Nat × (Nat × Nat))).2.1 (((47, (12, 21)) : Nat × (Nat × Nat))).2.2 := ⟨RX12, TX12, 94, rfl, by decide, Or.inl (am_inT (am_t7 49 rfl) rfl)⟩
theorem am_okF12_13 : am_pF 12 (((50, (12, 23)) : Nat × (Nat × Nat))).1 (((50, (12, 23)) : Nat × (Nat × Nat))).2.1 (((50, (12, 23)) : Nat × (Nat × Nat))).2.2 := ⟨RX12, TX12, 94, rfl, by decide, Or.inl (am_inT (am_t7 51 rfl) rfl)⟩
theorem am_okF12_14 : am_pF 12 (((53, (12, 24)) : Nat × (Nat × Nat))).1 (((53, (12, 24)) : Nat × (Nat × Nat))).2.1 (((53, (12, 24)) : Nat × (Nat × Nat))).2.2 := ⟨RX12, TX12, 94, rfl, by decide, Or.inl (am_inT (am_t7 52 rfl) rfl)⟩
theorem am_okF12_15 : am_pF 12 (((56, (12, 25)) : Nat × (Nat × Nat))).1 (((56, (12, 25)) : Nat × (Nat × Nat))).2.1 (((56, (12, 25)) : Nat × (Nat × Nat))).2.2 := ⟨RX12, TX12, 94, rfl, by decide, Or.inl (am_inT (am_t7 53 rfl) rfl)⟩
theorem am_okF12_16 : am_pF 12 (((59, (12, 26)) : Nat × (Nat × Nat))).1 (((59, (12, 26)) : Nat × (Nat × Nat))).2.1 (((59, (12, 26)) : Nat × (Nat × Nat))).2.2 := ⟨RX12, TX12, 94, rfl, by decide, Or.inl (am_inT (am_t7 54 rfl) rfl)⟩
theorem am_okF12_17 : am_pF 12 (((62, (12, 27)) : Nat × (Nat × Nat))).1 (((62, (12, 27)) : Nat × (Nat × Nat))).2.1 (((62, (12, 27)) : Nat × (Nat × Nat))).2.2 := ⟨RX12, TX12, 94, rfl, by decide, Or.inl (am_inT (am_t7 55 rfl) rfl)⟩
theorem am_okF12_18 : am_pF 12 (((65, (12, 35)) : Nat × (Nat × Nat))).1 (((65, (12, 35)) : Nat × (Nat × Nat))).2.1 (((65, (12, 35)) : Nat × (Nat × Nat))).2.2 := ⟨RX12, TX12, 94, rfl, by decide, Or.inl (am_inT (am_t7 63 rfl) rfl)⟩
theorem am_okF12_19 : am_pF 12 (((68, (12, 36)) : Nat × (Nat × Nat))).1 (((68, (12, 36)) : Nat × (Nat × Nat))).2.1 (((68, (12, 36)) : Nat × (Nat × Nat))).2.2 := ⟨RX12, TX12, 94, rfl, by decide, Or.inl (am_inT (am_t7 64 rfl) rfl)⟩
theorem am_okF12_20 : am_pF 12 (((71, (12, 37)) : Nat × (Nat × Nat))).1 (((71, (12, 37)) : Nat × (Nat × Nat))).2.1 (((71, (12, 37)) : Nat × (Nat × Nat))).2.2 := ⟨RX12, TX12, 94, rfl, by decide, Or.inl (am_inT (am_t7 65 rfl) rfl)⟩
theorem am_okF12_21 : am_pF 12 (((74, (12, 39)) : Nat × (Nat × Nat))).1 (((74, (12, 39)) : Nat × (Nat × Nat))).2.1 (((74, (12, 39)) : Nat × (Nat × Nat))).2.2 := ⟨RX12, TX12, 94, rfl, by decide, Or.inl (am_inT (am_t7 67 rfl) rfl)⟩
theorem am_okF12_22 : am_pF 12 (((77, (12, 40)) : Nat × (Nat × Nat))).1 (((77, (12, 40)) : Nat × (Nat × Nat))).2.1 (((77, (12, 40)) : Nat × (Nat × Nat))).2.2 := ⟨RX12, TX12, 94, rfl, by decide, Or.inl (am_inT (am_t7 68 rfl) rfl)⟩
theorem am_okF12_23 : am_pF 12 (((81, (12, 41)) : Nat × (Nat × Nat))).1 (((81, (12, 41)) : Nat × (Nat × Nat))).2.1 (((81, (12, 41)) : Nat × (Nat × Nat))).2.2 := ⟨RX12, TX12, 94, rfl, by decide, Or.inl (am_inT (am_t7 69 rfl) rfl)⟩
theorem am_okF12_24 : am_pF 12 (((85, (12, 43)) : Nat × (Nat × Nat))).1 (((85, (12, 43)) : Nat × (Nat × Nat))).2.1 (((85, (12, 43)) : Nat × (Nat × Nat))).2.2 := ⟨RX12, TX12, 94, rfl, by decide, Or.inl (am_inT (am_t7 71 rfl) rfl)⟩
theorem am_okF12_25 : am_pF 12 (((88, (12, 44)) : Nat × (Nat × Nat))).1 (((88, (12, 44)) : Nat × (Nat × Nat))).2.1 (((88, (12, 44)) : Nat × (Nat × Nat))).2.2 := ⟨RX12, TX12, 94, rfl, by decide, Or.inl (am_inT (am_t7 72 rfl) rfl)⟩
theorem am_okF12_26 : am_pF 12 (((92, (12, 45)) : Nat × (Nat × Nat))).1 (((92, (12, 45)) : Nat × (Nat × Nat))).2.1 (((92, (12, 45)) : Nat × (Nat × Nat))).2.2 := ⟨RX12, TX12, 94, rfl, by decide, Or.inl (am_inT (am_t7 73 rfl) rfl)⟩
theorem am_okF12_27 : am_pF 12 (((95, (12, 46)) : Nat × (Nat × Nat))).1 (((95, (12, 46)) : Nat × (Nat × Nat))).2.1 (((95, (12, 46)) : Nat × (Nat × Nat))).2.2 := ⟨RX12, TX12, 94, rfl, by decide, Or.inl (am_inT (am_t7 74 rfl) rfl)⟩
theorem am_okF12_28 : am_pF 12 (((99, (12, 47)) : Nat × (Nat × Nat))).1 (((99, (12, 47)) : Nat × (Nat × Nat))).2.1 (((99, (12, 47)) : Nat × (Nat × Nat))).2.2 := ⟨RX12, TX12, 94, rfl, by decide, Or.inl (am_inT (am_t7 75 rfl) rfl)⟩
theorem am_okF12_29 : am_pF 12 (((102, (12, 49)) : Nat × (Nat × Nat))).1 (((102, (12, 49)) : Nat × (Nat × Nat))).2.1 (((102, (12, 49)) : Nat × (Nat × Nat))).2.2 := ⟨RX12, TX12, 94, rfl, by decide, Or.inl (am_inT (am_t7 77 rfl) rfl)⟩
theorem am_okF12_30 : am_pF 12 (((105, (12, 50)) : Nat × (Nat × Nat))).1 (((105, (12, 50)) : Nat × (Nat × Nat))).2.1 (((105, (12, 50)) : Nat × (Nat × Nat))).2.2 := ⟨RX12, TX12, 94, rfl, by decide, Or.inl (am_inT (am_t7 78 rfl) rfl)⟩
theorem am_okF12_31 : am_pF 12 (((108, (12, 51)) : Nat × (Nat × Nat))).1 (((108, (12, 51)) : Nat × (Nat × Nat))).2.1 (((108, (12, 51)) : Nat × (Nat × Nat))).2.2 := ⟨RX12, TX12, 94, rfl, by decide, Or.inl (am_inT (am_t7 79 rfl) rfl)⟩
theorem am_okF12_32 : am_pF 12 (((111, (12, 52)) : Nat × (Nat × Nat))).1 (((111, (12, 52)) : Nat × (Nat × Nat))).2.1 (((111, (12, 52)) : Nat × (Nat × Nat))).2.2 := ⟨RX12, TX12, 94, rfl, by decide, Or.inl (am_inT (am_t7 80 rfl) rfl)⟩
theorem am_okF12_33 : am_pF 12 (((114, (12, 53)) : Nat × (Nat × Nat))).1 (((114, (12, 53)) : Nat × (Nat × Nat))).2.1 (((114, (12, 53)) : Nat × (Nat × Nat))).2.2 := ⟨RX12, TX12, 94, rfl, by decide, Or.inl (am_inT (am_t7 81 rfl) rfl)⟩
theorem am_okF12_34 : am_pF 12 (((117, (12, 54)) : Nat × (Nat × Nat))).1 (((117, (12, 54)) : Nat × (Nat × Nat))).2.1 (((117, (12, 54)) : Nat × (Nat × Nat))).2.2 := ⟨RX12, TX12, 94, rfl, by decide, Or.inl (am_inT (am_t7 82 rfl) rfl)⟩
theorem am_okF12_35 : am_pF 12 (((120, (12, 55)) : Nat × (Nat × Nat))).1 (((120, (12, 55)) : Nat × (Nat × Nat))).2.1 (((120, (12, 55)) : Nat × (Nat × Nat))).2.2 := ⟨RX12, TX12, 94, rfl, by decide, Or.inl (am_inT (am_t7 83 rfl) rfl)⟩
theorem am_okF12_36 : am_pF 12 (((123, (12, 59)) : Nat × (Nat × Nat))).1 (((123, (12, 59)) : Nat × (Nat × Nat))).2.1 (((123, (12, 59)) : Nat × (Nat × Nat))).2.2 := ⟨RX12, TX12, 94, rfl, by decide, Or.inl (am_inT (am_t7 87 rfl) rfl)⟩
theorem am_okF12_37 : am_pF 12 (((126, (12, 60)) : Nat × (Nat × Nat))).1 (((126, (12, 60)) : Nat × (Nat × Nat))).2.1 (((126, (12, 60)) : Nat × (Nat × Nat))).2.2 := ⟨RX12, TX12, 94, rfl, by decide, Or.inl (am_inT (am_t7 88 rfl) rfl)⟩
theorem am_okF12_38 : am_pF 12 (((129, (12, 61)) : Nat × (Nat × Nat))).1 (((129, (12, 61)) : Nat × (Nat × Nat))).2.1 (((129, (12, 61)) : Nat × (Nat × Nat))).2.2 := ⟨RX12, TX12, 94, rfl, by decide, Or.inl (am_inT (am_t7 89 rfl) rfl)⟩
theorem am_okF12_39 : am_pF 12 (((132, (12, 62)) : Nat × (Nat × Nat))).1 (((132, (12, 62)) : Nat × (Nat × Nat))).2.1 (((132, (12, 62)) : Nat × (Nat × Nat))).2.2 := ⟨RX12, TX12, 94, rfl, by decide, Or.inl (am_inT (am_t7 90 rfl) rfl)⟩
theorem am_okF12_40 : am_pF 12 (((135, (12, 63)) : Nat × (Nat × Nat))).1 (((135, (12, 63)) : Nat × (Nat × Nat))).2.1 (((135, (12, 63)) : Nat × (Nat × Nat))).2.2 := ⟨RX12, TX12, 94, rfl, by decide, Or.inl (am_inT (am_t7 91 rfl) rfl)⟩
theorem am_okF12_41 : am_pF 12 (((138, (12, 64)) : Nat × (Nat × Nat))).1 (((138, (12, 64)) : Nat × (Nat × Nat))).2.1 (((138, (12, 64)) : Nat × (Nat × Nat))).2.2 := ⟨RX12, TX12, 94, rfl, by decide, Or.inl (am_inT (am_t7 92 rfl) rfl)⟩
theorem am_okF12_42 : am_pF 12 (((141, (12, 65)) : Nat × (Nat × Nat))).1 (((141, (12, 65)) : Nat × (Nat × Nat))).2.1 (((141, (12, 65)) : Nat × (Nat × Nat))).2.2 := ⟨RX12, TX12, 94, rfl, by decide, Or.inl (am_inT (am_t7 93 rfl) rfl)⟩
theorem am_okF12_43 : am_pF 12 (((144, (12, 66)) : Nat × (Nat × Nat))).1 (((144, (12, 66)) : Nat × (Nat × Nat))).2.1 (((144, (12, 66)) : Nat × (Nat × Nat))).2.2 := ⟨RX12, TX12, 94, rfl, by decide, Or.inl (am_inT (am_t7 94 rfl) rfl)⟩
theorem am_okF12_44 : am_pF 12 (((147, (12, 67)) : Nat × (Nat × Nat))).1 (((147, (12, 67)) : Nat × (Nat × Nat))).2.1 (((147, (12, 67)) : Nat × (Nat × Nat))).2.2 := ⟨RX12, TX12, 94, rfl, by decide, Or.inl (am_inT (am_t7 95 rfl) rfl)⟩
theorem am_okF12_45 : am_pF 12 (((150, (12, 71)) : Nat × (Nat × Nat))).1 (((150, (12, 71)) : Nat × (Nat × Nat))).2.1 (((150, (12, 71)) : Nat × (Nat × Nat))).2.2 := ⟨RX12, TX12, 94, rfl, by decide, Or.inl (am_inT (am_t7 99 rfl) rfl)⟩
theorem am_okF12_46 : am_pF 12 (((154, (12, 73)) : Nat × (Nat × Nat))).1 (((154, (12, 73)) : Nat × (Nat × Nat))).2.1 (((154, (12, 73)) : Nat × (Nat × Nat))).2.2 := ⟨RX12, TX12, 94, rfl, by decide, Or.inl (am_inT (am_t7 101 rfl) rfl)⟩
theorem am_okF12_47 : am_pF 12 (((158, (12, 74)) : Nat × (Nat × Nat))).1 (((158, (12, 74)) : Nat × (Nat × Nat))).2.1 (((158, (12, 74)) : Nat × (Nat × Nat))).2.2 := ⟨RX12, TX12, 94, rfl, by decide, Or.inl (am_inT (am_t7 102 rfl) rfl)⟩
theorem am_okF12_48 : am_pF 12 (((161, (12, 76)) : Nat × (Nat × Nat))).1 (((161, (12, 76)) : Nat × (Nat × Nat))).2.1 (((161, (12, 76)) : Nat × (Nat × Nat))).2.2 := ⟨RX12, TX12, 94, rfl, by decide, Or.inl (am_inT (am_t7 104 rfl) rfl)⟩
theorem am_okF12_49 : am_pF 12 (((165, (12, 77)) : Nat × (Nat × Nat))).1 (((165, (12, 77)) : Nat × (Nat × Nat))).2.1 (((165, (12, 77)) : Nat × (Nat × Nat))).2.2 := ⟨RX12, TX12, 94, rfl, by decide, Or.inl (am_inT (am_t7 105 rfl) rfl)⟩
theorem am_okF12_50 : am_pF 12 (((168, (12, 78)) : Nat × (Nat × Nat))).1 (((168, (12, 78)) : Nat × (Nat × Nat))).2.1 (((168, (12, 78)) : Nat × (Nat × Nat))).2.2 := ⟨RX12, TX12, 94, rfl, by decide, Or.inl (am_inT (am_t7 106 rfl) rfl)⟩
theorem am_okF12_51 : am_pF 12 (((171, (12, 79)) : Nat × (Nat × Nat))).1 (((171, (12, 79)) : Nat × (Nat × Nat))).2.1 (((171, (12, 79)) : Nat × (Nat × Nat))).2.2 := ⟨RX12, TX12, 94, rfl, by decide, Or.inl (am_inT (am_t7 107 rfl) rfl)⟩
theorem am_okF12_52 : am_pF 12 (((174, (12, 84)) : Nat × (Nat × Nat))).1 (((174, (12, 84)) : Nat × (Nat × Nat))).2.1 (((174, (12, 84)) : Nat × (Nat × Nat))).2.2 := ⟨RX12, TX12, 94, rfl, by decide, Or.inl (am_inT (am_t7 112 rfl) rfl)⟩
theorem am_okF12_53 : am_pF 12 (((177, (12, 85)) : Nat × (Nat × Nat))).1 (((177, (12, 85)) : Nat × (Nat × Nat))).2.1 (((177, (12, 85)) : Nat × (Nat × Nat))).2.2 := ⟨RX12, TX12, 94, rfl, by decide, Or.inl (am_inT (am_t7 113 rfl) rfl)⟩
theorem am_okF12_54 : am_pF 12 (((180, (12, 86)) : Nat × (Nat × Nat))).1 (((180, (12, 86)) : Nat × (Nat × Nat))).2.1 (((180, (12, 86)) : Nat × (Nat × Nat))).2.2 := ⟨RX12, TX12, 94, rfl, by decide, Or.inl (am_inT (am_t7 114 rfl) rfl)⟩
theorem am_okF12_55 : am_pF 12 (((183, (12, 87)) : Nat × (Nat × Nat))).1 (((183, (12, 87)) : Nat × (Nat × Nat))).2.1 (((183, (12, 87)) : Nat × (Nat × Nat))).2.2 := ⟨RX12, TX12, 94, rfl, by decide, Or.inl (am_inT (am_t7 115 rfl) rfl)⟩
theorem am_okF12_56 : am_pF 12 (((186, (12, 88)) : Nat × (Nat × Nat))).1 (((186, (12, 88)) : Nat × (Nat × Nat))).2.1 (((186, (12, 88)) : Nat × (Nat × Nat))).2.2 := ⟨RX12, TX12, 94, rfl, by decide, Or.inl (am_inT (am_t7 116 rfl) rfl)⟩
theorem am_okF12_57 : am_pF 12 (((189, (12, 91)) : Nat × (Nat × Nat))).1 (((189, (12, 91)) : Nat × (Nat × Nat))).2.1 (((189, (12, 91)) : Nat × (Nat × Nat))).2.2 := ⟨RX12, TX12, 94, rfl, by decide, Or.inl (am_inT (am_t7 119 rfl) rfl)⟩
theorem am_okF12_58 : am_pF 12 (((192, (12, 92)) : Nat × (Nat × Nat))).1 (((192, (12, 92)) : Nat × (Nat × Nat))).2.1 (((192, (12, 92)) : Nat × (Nat × Nat))).2.2 := ⟨RX12, TX12, 94, rfl, by decide, Or.inl (am_inT (am_t7 120 rfl) rfl)⟩
theorem am_okF12_59 : am_pF 12 (((195, (12, 93)) : Nat × (Nat × Nat))).1 (((195, (12, 93)) : Nat × (Nat × Nat))).2.1 (((195, (12, 93)) : Nat × (Nat × Nat))).2.2 := ⟨RX12, TX12, 94, rfl, by decide, Or.inl (am_inT (am_t7 121 rfl) rfl)⟩
theorem am_okF12_60 : am_pF 12 (((198, (12, 0)) : Nat × (Nat × Nat))).1 (((198, (12, 0)) : Nat × (Nat × Nat))).2.1 (((198, (12, 0)) : Nat × (Nat × Nat))).2.2 := ⟨RX12, TX12, 94, rfl, by decide, Or.inl (am_inT (am_t7 28 rfl) rfl)⟩
theorem am_okF12_61 : am_pF 12 (((209, (12, 2)) : Nat × (Nat × Nat))).1 (((209, (12, 2)) : Nat × (Nat × Nat))).2.1 (((209, (12, 2)) : Nat × (Nat × Nat))).2.2 := ⟨RX12, TX12, 94, rfl, by decide, Or.inl (am_inT (am_t7 30 rfl) rfl)⟩
theorem am_okF12_62 : am_pF 12 (((216, (12, 8)) : Nat × (Nat × Nat))).1 (((216, (12, 8)) : Nat × (Nat × Nat))).2.1 (((216, (12, 8)) : Nat × (Nat × Nat))).2.2 := ⟨RX12, TX12, 94, rfl, by decide, Or.inl (am_inT (am_t7 36 rfl) rfl)⟩
theorem am_okF12_63 : am_pF 12 (((235, (12, 31)) : Nat × (Nat × Nat))).1 (((235, (12, 31)) : Nat × (Nat × Nat))).2.1 (((235, (12, 31)) : Nat × (Nat × Nat))).2.2 := ⟨RX12, TX12, 94, rfl, by decide, Or.inl (am_inT (am_t7 59 rfl) rfl)⟩
theorem am_okF12_64 : am_pF 12 (((241, (12, 29)) : Nat × (Nat × Nat))).1 (((241, (12, 29)) : Nat × (Nat × Nat))).2.1 (((241, (12, 29)) : Nat × (Nat × Nat))).2.2 := ⟨RX12, TX12, 94, rfl, by decide, Or.inl (am_inT (am_t7 57 rfl) rfl)⟩
theorem am_okF12_65 : am_pF 12 (((244, (12, 30)) : Nat × (Nat × Nat))).1 (((244, (12, 30)) : Nat × (Nat × Nat))).2.1 (((244, (12, 30)) : Nat × (Nat × Nat))).2.2 := ⟨RX12, TX12, 94, rfl, by decide, Or.inl (am_inT (am_t7 58 rfl) rfl)⟩
theorem am_okF12_66 : am_pF 12 (((247, (12, 28)) : Nat × (Nat × Nat))).1 (((247, (12, 28)) : Nat × (Nat × Nat))).2.1 (((247, (12, 28)) : Nat × (Nat × Nat))).2.2 := ⟨RX12, TX12, 94, rfl, by decide, Or.inl (am_inT (am_t7 56 rfl) rfl)⟩
theorem am_okF12_67 : am_pF 12 (((253, (12, 9)) : Nat × (Nat × Nat))).1 (((253, (12, 9)) : Nat × (Nat × Nat))).2.1 (((253, (12, 9)) : Nat × (Nat × Nat))).2.2 := ⟨RX12, TX12, 94, rfl, by decide, Or.inl (am_inT (am_t7 37 rfl) rfl)⟩
theorem am_okF12_68 : am_pF 12 (((258, (12, 32)) : Nat × (Nat × Nat))).1 (((258, (12, 32)) : Nat × (Nat × Nat))).2.1 (((258, (12, 32)) : Nat × (Nat × Nat))).2.2 := ⟨RX12, TX12, 94, rfl, by decide, Or.inl (am_inT (am_t7 60 rfl) rfl)⟩
theorem am_okF12_69 : am_pF 12 (((261, (12, 33)) : Nat × (Nat × Nat))).1 (((261, (12, 33)) : Nat × (Nat × Nat))).2.1 (((261, (12, 33)) : Nat × (Nat × Nat))).2.2 := ⟨RX12, TX12, 94, rfl, by decide, Or.inl (am_inT (am_t7 61 rfl) rfl)⟩
theorem am_okF12_70 : am_pF 12 (((268, (12, 34)) : Nat × (Nat × Nat))).1 (((268, (12, 34)) : Nat × (Nat × Nat))).2.1 (((268, (12, 34)) : Nat × (Nat × Nat))).2.2 := ⟨RX12, TX12, 94, rfl, by decide, Or.inl (am_inT (am_t7 62 rfl) rfl)⟩
theorem am_okF12_71 : am_pF 12 (((278, (12, 18)) : Nat × (Nat × Nat))).1 (((278, (12, 18)) : Nat × (Nat × Nat))).2.1 (((278, (12, 18)) : Nat × (Nat × Nat))).2.2 := ⟨RX12, TX12, 94, rfl, by decide, Or.inl (am_inT (am_t7 46 rfl) rfl)⟩
theorem am_okF12_72 : am_pF 12 (((281, (12, 22)) : Nat × (Nat × Nat))).1 (((281, (12, 22)) : Nat × (Nat × Nat))).2.1 (((281, (12, 22)) : Nat × (Nat × Nat))).2.2 := ⟨RX12, TX12, 94, rfl, by decide, Or.inl (am_inT (am_t7 50 rfl) rfl)⟩
theorem am_okF12_73 : am_pF 12 (((284, (12, 15)) : Nat × (Nat × Nat))).1 (((284, (12, 15)) : Nat × (Nat × Nat))).2.1 (((284, (12, 15)) : Nat × (Nat × Nat))).2.2 := ⟨RX12, TX12, 94, rfl, by decide, Or.inl (am_inT (am_t7 43 rfl) rfl)⟩
theorem am_okF12_74 : am_pF 12 (((287, (12, 12)) : Nat × (Nat × Nat))).1 (((287, (12, 12)) : Nat × (Nat × Nat))).2.1 (((287, (12, 12)) : Nat × (Nat × Nat))).2.2 := ⟨RX12, TX12, 94, rfl, by decide, Or.inl (am_inT (am_t7 40 rfl) rfl)⟩
theorem am_okF12_75 : am_pF 12 (((290, (12, 38)) : Nat × (Nat × Nat))).1 (((290, (12, 38)) : Nat × (Nat × Nat))).2.1 (((290, (12, 38)) : Nat × (Nat × Nat))).2.2 := ⟨RX12, TX12, 94, rfl, by decide, Or.inl (am_inT (am_t7 66 rfl) rfl)⟩
theorem am_okF12_76 : am_pF 12 (((429, (12, 42)) : Nat × (Nat × Nat))).1 (((429, (12, 42)) : Nat × (Nat × Nat))).2.1 (((429, (12, 42)) : Nat × (Nat × Nat))).2.2 := ⟨RX12, TX12, 94, rfl, by decide, Or.inl (am_inT (am_t7 70 rfl) rfl)⟩
theorem am_okF12_77 : am_pF 12 (((453, (12, 48)) : Nat × (Nat × Nat))).1 (((453, (12, 48)) : Nat × (Nat × Nat))).2.1 (((453, (12, 48)) : Nat × (Nat × Nat))).2.2 := ⟨RX12, TX12, 94, rfl, by decide, Or.inl (am_inT (am_t7 76 rfl) rfl)⟩
theorem am_okF12_78 : am_pF 12 (((456, (12, 56)) : Nat × (Nat × Nat))).1 (((456, (12, 56)) : Nat × (Nat × Nat))).2.1 (((456, (12, 56)) : Nat × (Nat × Nat))).2.2 := ⟨RX12, TX12, 94, rfl, by decide, Or.inl (am_inT (am_t7 84 rfl) rfl)⟩
theorem am_okF12_79 : am_pF 12 (((481, (12, 58)) : Nat × (Nat × Nat))).1 (((481, (12, 58)) : Nat × (Nat × Nat))).2.1 (((481, (12, 58)) : Nat × (Nat × Nat))).2.2 := ⟨RX12, TX12, 94, rfl, by decide, Or.inl (am_inT (am_t7 86 rfl) rfl)⟩
theorem am_okF12_80 : am_pF 12 (((484, (12, 68)) : Nat × (Nat × Nat))).1 (((484, (12, 68)) : Nat × (Nat × Nat))).2.1 (((484, (12, 68)) : Nat × (Nat × Nat))).2.2 := ⟨RX12, TX12, 94, rfl, by decide, Or.inl (am_inT (am_t7 96 rfl) rfl)⟩
theorem am_okF12_81 : am_pF 12 (((487, (12, 69)) : Nat × (Nat × Nat))).1 (((487, (12, 69)) : Nat × (Nat × Nat))).2.1 (((487, (12, 69)) : Nat × (Nat × Nat))).2.2 := ⟨RX12, TX12, 94, rfl, by decide, Or.inl (am_inT (am_t7 97 rfl) rfl)⟩
theorem am_okF12_82 : am_pF 12 (((518, (12, 57)) : Nat × (Nat × Nat))).1 (((518, (12, 57)) : Nat × (Nat × Nat))).2.1 (((518, (12, 57)) : Nat × (Nat × Nat))).2.2 := ⟨RX12, TX12, 94, rfl, by decide, Or.inl (am_inT (am_t7 85 rfl) rfl)⟩
theorem am_okF12_83 : am_pF 12 (((522, (12, 80)) : Nat × (Nat × Nat))).1 (((522, (12, 80)) : Nat × (Nat × Nat))).2.1 (((522, (12, 80)) : Nat × (Nat × Nat))).2.2 := ⟨RX12, TX12, 94, rfl, by decide, Or.inl (am_inT (am_t7 108 rfl) rfl)⟩
theorem am_okF12_84 : am_pF 12 (((542, (12, 75)) : Nat × (Nat × Nat))).1 (((542, (12, 75)) : Nat × (Nat × Nat))).2.1 (((542, (12, 75)) : Nat × (Nat × Nat))).2.2 := ⟨RX12, TX12, 94, rfl, by decide, Or.inl (am_inT (am_t7 103 rfl) rfl)⟩
theorem am_okF12_85 : am_pF 12 (((551, (12, 70)) : Nat × (Nat × Nat))).1 (((551, (12, 70)) : Nat × (Nat × Nat))).2.1 (((551, (12, 70)) : Nat × (Nat × Nat))).2.2 := ⟨RX12, TX12, 94, rfl, by decide, Or.inl (am_inT (am_t7 98 rfl) rfl)⟩
theorem am_okF12_86 : am_pF 12 (((571, (12, 6)) : Nat × (Nat × Nat))).1 (((571, (12, 6)) : Nat × (Nat × Nat))).2.1 (((571, (12, 6)) : Nat × (Nat × Nat))).2.2 := ⟨RX12, TX12, 94, rfl, by decide, Or.inl (am_inT (am_t7 34 rfl) rfl)⟩
theorem am_okF12_87 : am_pF 12 (((584, (12, 4)) : Nat × (Nat × Nat))).1 (((584, (12, 4)) : Nat × (Nat × Nat))).2.1 (((584, (12, 4)) : Nat × (Nat × Nat))).2.2 := ⟨RX12, TX12, 94, rfl, by decide, Or.inl (am_inT (am_t7 32 rfl) rfl)⟩
theorem am_okF12_88 : am_pF 12 (((590, (12, 72)) : Nat × (Nat × Nat))).1 (((590, (12, 72)) : Nat × (Nat × Nat))).2.1 (((590, (12, 72)) : Nat × (Nat × Nat))).2.2 := ⟨RX12, TX12, 94, rfl, by decide, Or.inl (am_inT (am_t7 100 rfl) rfl)⟩
theorem am_okF12_89 : am_pF 12 (((593, (12, 81)) : Nat × (Nat × Nat))).1 (((593, (12, 81)) : Nat × (Nat × Nat))).2.1 (((593, (12, 81)) : Nat × (Nat × Nat))).2.2 := ⟨RX12, TX12, 94, rfl, by decide, Or.inl (am_inT (am_t7 109 rfl) rfl)⟩
theorem am_okF12_90 : am_pF 12 (((631, (12, 83)) : Nat × (Nat × Nat))).1 (((631, (12, 83)) : Nat × (Nat × Nat))).2.1 (((631, (12, 83)) : Nat × (Nat × Nat))).2.2 := ⟨RX12, TX12, 94, rfl, by decide, Or.inl (am_inT (am_t7 111 rfl) rfl)⟩
theorem am_okF12_91 : am_pF 12 (((648, (12, 82)) : Nat × (Nat × Nat))).1 (((648, (12, 82)) : Nat × (Nat × Nat))).2.1 (((648, (12, 82)) : Nat × (Nat × Nat))).2.2 := ⟨RX12, TX12, 94, rfl, by decide, Or.inl (am_inT (am_t7 110 rfl) rfl)⟩
theorem am_okF12_92 : am_pF 12 (((657, (12, 89)) : Nat × (Nat × Nat))).1 (((657, (12, 89)) : Nat × (Nat × Nat))).2.1 (((657, (12, 89)) : Nat × (Nat × Nat))).2.2 := ⟨RX12, TX12, 94, rfl, by decide, Or.inl (am_inT (am_t7 117 rfl) rfl)⟩
theorem am_okF12_93 : am_pF 12 (((663, (12, 90)) : Nat × (Nat × Nat))).1 (((663, (12, 90)) : Nat × (Nat × Nat))).2.1 (((663, (12, 90)) : Nat × (Nat × Nat))).2.2 := ⟨RX12, TX12, 94, rfl, by decide, Or.inl (am_inT (am_t7 118 rfl) rfl)⟩
theorem am_okF12 : ∀ q ∈ am_tf_12, am_pF 12 (q).1 (q).2.1 (q).2.2 := by
  unfold am_tf_12
  exact List.forall_mem_cons.mpr ⟨am_okF12_0, List.forall_mem_cons.mpr ⟨am_okF12_1, List.forall_mem_cons.mpr ⟨am_okF12_2, List.forall_mem_cons.mpr ⟨am_okF12_3, List.forall_mem_cons.mpr ⟨am_okF12_4, List.forall_mem_cons.mpr ⟨am_okF12_5, List.forall_mem_cons.mpr ⟨am_okF12_6, List.forall_mem_cons.mpr ⟨am_okF12_7, List.forall_mem_cons.mpr ⟨am_okF12_8, List.forall_mem_cons.mpr ⟨am_okF12_9, List.forall_mem_cons.mpr ⟨am_okF12_10, List.forall_mem_cons.mpr ⟨am_okF12_11, List.forall_mem_cons.mpr ⟨am_okF12_12, List.forall_mem_cons.mpr ⟨am_okF12_13, List.forall_mem_cons.mpr ⟨am_okF12_14, List.forall_mem_cons.mpr ⟨am_okF12_15, List.forall_mem_cons.mpr ⟨am_okF12_16, List.forall_mem_cons.mpr ⟨am_okF12_17, List.forall_mem_cons.mpr ⟨am_okF12_18, List.forall_mem_cons.mpr ⟨am_okF12_19, List.forall_mem_cons.mpr ⟨am_okF12_20, List.forall_mem_cons.mpr ⟨am_okF12_21, List.forall_mem_cons.mpr ⟨am_okF12_22, List.forall_mem_cons.mpr ⟨am_okF12_23, List.forall_mem_cons.mpr ⟨am_okF12_24, List.forall_mem_cons.mpr ⟨am_okF12_25, List.forall_mem_cons.mpr ⟨am_okF12_26, List.forall_mem_cons.mpr ⟨am_okF12_27, List.forall_mem_cons.mpr ⟨am_okF12_28, List.forall_mem_cons.mpr ⟨am_okF12_29, List.forall_mem_cons.mpr ⟨am_okF12_30, List.forall_mem_cons.mpr ⟨am_okF12_31, List.forall_mem_cons.mpr ⟨am_okF12_32, List.forall_mem_cons.mpr ⟨am_okF12_33, List.forall_mem_cons.mpr ⟨am_okF12_34, List.forall_mem_cons.mpr ⟨am_okF12_35, List.forall_mem_cons.mpr ⟨am_okF12_36, List.forall_mem_cons.mpr ⟨am_okF12_37, List.forall_mem_cons.mpr ⟨am_okF12_38, List.forall_mem_cons.mpr ⟨am_okF12_39, List.forall_mem_cons.mpr ⟨am_okF12_40, List.forall_mem_cons.mpr ⟨am_okF12_41, List.forall_mem_cons.mpr ⟨am_okF12_42, List.forall_mem_cons.mpr ⟨am_okF12_43, List.forall_mem_cons.mpr ⟨am_okF12_44, List.forall_mem_cons.mpr ⟨am_okF12_45, List.forall_mem_cons.mpr ⟨am_okF12_46, List.forall_mem_cons.mpr ⟨am_okF12_47, List.forall_mem_cons.mpr ⟨am_okF12_48, List.forall_mem_cons.mpr ⟨am_okF12_49, List.forall_mem_cons.mpr ⟨am_okF12_50, List.forall_mem_cons.mpr ⟨am_okF12_51, List.forall_mem_cons.mpr ⟨am_okF12_52, List.forall_mem_cons.mpr ⟨am_okF12_53, List.forall_mem_cons.mpr ⟨am_okF12_54, List.forall_mem_cons.mpr ⟨am_okF12_55, List.forall_mem_cons.mpr ⟨am_okF12_56, List.forall_mem_cons.mpr ⟨am_okF12_57, List.forall_mem_cons.mpr ⟨am_okF12_58, List.forall_mem_cons.mpr ⟨am_okF12_59, List.forall_mem_cons.mpr ⟨am_okF12_60, List.forall_mem_cons.mpr ⟨am_okF12_61, List.forall_mem_cons.mpr ⟨am_okF12_62, List.forall_mem_cons.mpr ⟨am_okF12_63, List.forall_mem_cons.mpr ⟨am_okF12_64, List.forall_mem_cons.mpr ⟨am_okF12_65, List.forall_mem_cons.mpr ⟨am_okF12_66, List.forall_mem_cons.mpr ⟨am_okF12_67, List.forall_mem_cons.mpr ⟨am_okF12_68, List.forall_mem_cons.mpr ⟨am_okF12_69, List.forall_mem_cons.mpr ⟨am_okF12_70, List.forall_mem_cons.mpr ⟨am_okF12_71, List.forall_mem_cons.mpr ⟨am_okF12_72, List.forall_mem_cons.mpr ⟨am_okF12_73, List.forall_mem_cons.mpr ⟨am_okF12_74, List.forall_mem_cons.mpr ⟨am_okF12_75, List.forall_mem_cons.mpr ⟨am_okF12_76, List.forall_mem_cons.mpr ⟨am_okF12_77, List.forall_mem_cons.mpr ⟨am_okF12_78, List.forall_mem_cons.mpr ⟨am_okF12_79, List.forall_mem_cons.mpr ⟨am_okF12_80, List.forall_mem_cons.mpr ⟨am_okF12_81, List.forall_mem_cons.mpr ⟨am_okF12_82, List.forall_mem_cons.mpr ⟨am_okF12_83, List.forall_mem_cons.mpr ⟨am_okF12_84, List.forall_mem_cons.mpr ⟨am_okF12_85, List.forall_mem_cons.mpr ⟨am_okF12_86, List.forall_mem_cons.mpr ⟨am_okF12_87, List.forall_mem_cons.mpr ⟨am_okF12_88, List.forall_mem_cons.mpr ⟨am_okF12_89, List.forall_mem_cons.mpr ⟨am_okF12_90, List.forall_mem_cons.mpr ⟨am_okF12_91, List.forall_mem_cons.mpr ⟨am_okF12_92, List.forall_mem_cons.mpr ⟨am_okF12_93, (fun _ h => nomatch h)⟩⟩⟩⟩⟩⟩⟩⟩⟩⟩⟩⟩⟩⟩⟩⟩⟩⟩⟩⟩⟩⟩⟩⟩⟩⟩⟩⟩⟩⟩⟩⟩⟩⟩⟩⟩⟩⟩⟩⟩⟩⟩⟩⟩⟩⟩⟩⟩⟩⟩⟩⟩⟩⟩⟩⟩⟩⟩⟩⟩⟩⟩⟩⟩⟩⟩⟩⟩⟩⟩⟩⟩⟩⟩⟩⟩⟩⟩⟩⟩⟩⟩⟩⟩⟩⟩⟩⟩⟩⟩⟩⟩⟩⟩
theorem am_okF : ∀ e ∈ am_tf, ∀ q ∈ e.2, am_pF e.1 (q).1 (q).2.1 (q).2.2 := by
  unfold am_tf
  exact List.forall_mem_cons.mpr ⟨am_okF0, List.forall_mem_cons.mpr ⟨am_okF1, List.forall_mem_cons.mpr ⟨am_okF2, List.forall_mem_cons.mpr ⟨am_okF3, List.forall_mem_cons.mpr ⟨am_okF4, List.forall_mem_cons.mpr ⟨am_okF5, List.forall_mem_cons.mpr ⟨am_okF6, List.forall_mem_cons.mpr ⟨am_okF7, List.forall_mem_cons.mpr ⟨am_okF8, List.forall_mem_cons.mpr ⟨am_okF9, List.forall_mem_cons.mpr ⟨am_okF10, List.forall_mem_cons.mpr ⟨am_okF11, List.forall_mem_cons.mpr ⟨am_okF12, (fun _ h => nomatch h)⟩⟩⟩⟩⟩⟩⟩⟩⟩⟩⟩⟩⟩
theorem am_wu0_0 : u_lay RX0 TX0 0 ∈ am_T0 := (am_inT (am_t2 45 rfl) rfl)
theorem am_wu0_1 : u_lay RX0 TX0 1 ∈ am_T0 := (am_inT (am_t2 47 rfl) rfl)
theorem am_wu0_2 : u_lay RX0 TX0 2 ∈ am_T0 := (am_inT (am_t2 49 rfl) rfl)
theorem am_wu0_3 : u_lay RX0 TX0 3 ∈ am_T0 := (am_inT (am_t2 51 rfl) rfl)
theorem am_wu0_4 : u_lay RX0 TX0 4 ∈ am_T0 := (am_inT (am_t2 53 rfl) rfl)
theorem am_wu0_5 : u_lay RX0 TX0 5 ∈ am_T0 := (am_inT (am_t2 55 rfl) rfl)
theorem am_wu0_6 : u_lay RX0 TX0 6 ∈ am_T0 := (am_inT (am_t2 57 rfl) rfl)
theorem am_wu0 : ∀ k, k < 7 → u_lay RX0 TX0 k ∈ am_T0 := fun k hk => match k, hk with
  | 0, _ => am_wu0_0
  | 1, _ => am_wu0_1
  | 2, _ => am_wu0_2
  | 3, _ => am_wu0_3
  | 4, _ => am_wu0_4
  | 5, _ => am_wu0_5
  | 6, _ => am_wu0_6
  | n + 7, h => absurd h (by omega)
theorem am_okC0 : RX0 = am_cn 0 ∧ (∀ w ∈ u_ws RX0 TX0 7, w ∈ am_T0) ∧ (∀ k, k < 7 → parseFieldDescriptor (TX0 k).2.2.1 = some (am_ty 0 k)) ∧ (∀ a, a < 7 → ∀ b, b < 7 → a ≠ b → (TX0 a).2.1 ≠ (TX0 b).2.1) ∧ (∀ k, k < 7 → am_cF GG 0 k = (TX0 k).2.2.2 ∧ (TX0 k).1 = RX0) ∧ am_cN GG 0 = 7 := by
  refine ⟨rfl, fun w hw => ?_, by decide +kernel, by decide +kernel, fun k hk => ⟨rfl, ?_⟩, rfl⟩
  · obtain ⟨k, hk, rfl⟩ := List.mem_map.mp hw
    exact am_wu0 k (List.mem_range.mp hk)
  · revert k hk
    decide +kernel
theorem am_wu1_0 : u_lay RX1 TX1 0 ∈ am_T0 := (am_inT (am_t2 94 rfl) rfl)
theorem am_wu1_1 : u_lay RX1 TX1 1 ∈ am_T0 := (am_inT (am_t2 96 rfl) rfl)
theorem am_wu1_2 : u_lay RX1 TX1 2 ∈ am_T0 := (am_inT (am_t2 98 rfl) rfl)
theorem am_wu1_3 : u_lay RX1 TX1 3 ∈ am_T0 := (am_inT (am_t2 100 rfl) rfl)
theorem am_wu1_4 : u_lay RX1 TX1 4 ∈ am_T0 := (am_inT (am_t2 102 rfl) rfl)
theorem am_wu1_5 : u_lay RX1 TX1 5 ∈ am_T0 := (am_inT (am_t2 104 rfl) rfl)
theorem am_wu1_6 : u_lay RX1 TX1 6 ∈ am_T0 := (am_inT (am_t2 106 rfl) rfl)
theorem am_wu1_7 : u_lay RX1 TX1 7 ∈ am_T0 := (am_inT (am_t2 108 rfl) rfl)
theorem am_wu1_8 : u_lay RX1 TX1 8 ∈ am_T0 := (am_inT (am_t2 110 rfl) rfl)
theorem am_wu1 : ∀ k, k < 9 → u_lay RX1 TX1 k ∈ am_T0 := fun k hk => match k, hk with
  | 0, _ => am_wu1_0
  | 1, _ => am_wu1_1
  | 2, _ => am_wu1_2
  | 3, _ => am_wu1_3
  | 4, _ => am_wu1_4
  | 5, _ => am_wu1_5
  | 6, _ => am_wu1_6
  | 7, _ => am_wu1_7
  | 8, _ => am_wu1_8
  | n + 9, h => absurd h (by omega)
theorem am_okC1 : RX1 = am_cn 1 ∧ (∀ w ∈ u_ws RX1 TX1 9, w ∈ am_T0) ∧ (∀ k, k < 9 → parseFieldDescriptor (TX1 k).2.2.1 = some (am_ty 1 k)) ∧ (∀ a, a < 9 → ∀ b, b < 9 → a ≠ b → (TX1 a).2.1 ≠ (TX1 b).2.1) ∧ (∀ k, k < 9 → am_cF GG 1 k = (TX1 k).2.2.2 ∧ (TX1 k).1 = RX1) ∧ am_cN GG 1 = 9 := by
  refine ⟨rfl, fun w hw => ?_, by decide +kernel, by decide +kernel, fun k hk => ⟨rfl, ?_⟩, rfl⟩
  · obtain ⟨k, hk, rfl⟩ := List.mem_map.mp hw
    exact am_wu1 k (List.mem_range.mp hk)
  · revert k hk
    decide +kernel
theorem am_wu2_0 : u_lay RX2 TX2 0 ∈ am_T0 := (am_inT (am_t2 192 rfl) rfl)
theorem am_wu2_1 : u_lay RX2 TX2 1 ∈ am_T0 := (am_inT (am_t2 194 rfl) rfl)
theorem am_wu2_2 : u_lay RX2 TX2 2 ∈ am_T0 := (am_inT (am_t2 196 rfl) rfl)
theorem am_wu2_3 : u_lay RX2 TX2 3 ∈ am_T0 := (am_inT (am_t2 198 rfl) rfl)
theorem am_wu2_4 : u_lay RX2 TX2 4 ∈ am_T0 := (am_inT (am_t2 200 rfl) rfl)
theorem am_wu2_5 : u_lay RX2 TX2 5 ∈ am_T0 := (am_inT (am_t2 202 rfl) rfl)
theorem am_wu2_6 : u_lay RX2 TX2 6 ∈ am_T0 := (am_inT (am_t2 204 rfl) rfl)
theorem am_wu2_7 : u_lay RX2 TX2 7 ∈ am_T0 := (am_inT (am_t2 206 rfl) rfl)
theorem am_wu2_8 : u_lay RX2 TX2 8 ∈ am_T0 := (am_inT (am_t2 208 rfl) rfl)
theorem am_wu2_9 : u_lay RX2 TX2 9 ∈ am_T0 := (am_inT (am_t2 210 rfl) rfl)
theorem am_wu2_10 : u_lay RX2 TX2 10 ∈ am_T0 := (am_inT (am_t2 212 rfl) rfl)
theorem am_wu2_11 : u_lay RX2 TX2 11 ∈ am_T0 := (am_inT (am_t2 214 rfl) rfl)
theorem am_wu2_12 : u_lay RX2 TX2 12 ∈ am_T0 := (am_inT (am_t2 216 rfl) rfl)
theorem am_wu2_13 : u_lay RX2 TX2 13 ∈ am_T0 := (am_inT (am_t2 218 rfl) rfl)
theorem am_wu2_14 : u_lay RX2 TX2 14 ∈ am_T0 := (am_inT (am_t2 220 rfl) rfl)
theorem am_wu2_15 : u_lay RX2 TX2 15 ∈ am_T0 := (am_inT (am_t2 222 rfl) rfl)
theorem am_wu2_16 : u_lay RX2 TX2 16 ∈ am_T0 := (am_inT (am_t2 224 rfl) rfl)
theorem am_wu2 : ∀ k, k < 17 → u_lay RX2 TX2 k ∈ am_T0 := fun k hk => match k, hk with
  | 0, _ => am_wu2_0
  | 1, _ => am_wu2_1
  | 2, _ => am_wu2_2
  | 3, _ => am_wu2_3
  | 4, _ => am_wu2_4
  | 5, _ => am_wu2_5
  | 6, _ => am_wu2_6
  | 7, _ => am_wu2_7
  | 8, _ => am_wu2_8
  | 9, _ => am_wu2_9
  | 10, _ => am_wu2_10
  | 11, _ => am_wu2_11
  | 12, _ => am_wu2_12
  | 13, _ => am_wu2_13
  | 14, _ => am_wu2_14
  | 15, _ => am_wu2_15
  | 16, _ => am_wu2_16
  | n + 17, h => absurd h (by omega)
theorem am_okC2 : RX2 = am_cn 2 ∧ (∀ w ∈ u_ws RX2 TX2 17, w ∈ am_T0) ∧ (∀ k, k < 17 → parseFieldDescriptor (TX2 k).2.2.1 = some (am_ty 2 k)) ∧ (∀ a, a < 17 → ∀ b, b < 17 → a ≠ b → (TX2 a).2.1 ≠ (TX2 b).2.1) ∧ (∀ k, k < 17 → am_cF GG 2 k = (TX2 k).2.2.2 ∧ (TX2 k).1 = RX2) ∧ am_cN GG 2 = 17 := by
  refine ⟨rfl, fun w hw => ?_, by decide +kernel, by decide +kernel, fun k hk => ⟨rfl, ?_⟩, rfl⟩
  · obtain ⟨k, hk, rfl⟩ := List.mem_map.mp hw
    exact am_wu2 k (List.mem_range.mp hk)
  · revert k hk
    decide +kernel
theorem am_wu3_0 : u_lay RX3 TX3 0 ∈ am_T0 := (am_inT (am_t1 139 rfl) rfl)
theorem am_wu3_1 : u_lay RX3 TX3 1 ∈ am_T0 := (am_inT (am_t1 141 rfl) rfl)
theorem am_wu3_2 : u_lay RX3 TX3 2 ∈ am_T0 := (am_inT (am_t1 143 rfl) rfl)
theorem am_wu3_3 : u_lay RX3 TX3 3 ∈ am_T0 := (am_inT (am_t1 145 rfl) rfl)
theorem am_wu3_4 : u_lay RX3 TX3 4 ∈ am_T0 := (am_inT (am_t1 147 rfl) rfl)
theorem am_wu3 : ∀ k, k < 5 → u_lay RX3 TX3 k ∈ am_T0 := fun k hk => match k, hk with
  | 0, _ => am_wu3_0
  | 1, _ => am_wu3_1
  | 2, _ => am_wu3_2
  | 3, _ => am_wu3_3
  | 4, _ => am_wu3_4
  | n + 5, h => absurd h (by omega)
theorem am_okC3 : RX3 = am_cn 3 ∧ (∀ w ∈ u_ws RX3 TX3 5, w ∈ am_T0) ∧ (∀ k, k < 5 → parseFieldDescriptor (TX3 k).2.2.1 = some (am_ty 3 k)) ∧ (∀ a, a < 5 → ∀ b, b < 5 → a ≠ b → (TX3 a).2.1 ≠ (TX3 b).2.1) ∧ (∀ k, k < 5 → am_cF GG 3 k = (TX3 k).2.2.2 ∧ (TX3 k).1 = RX3) ∧ am_cN GG 3 = 5 := by
  refine ⟨rfl, fun w hw => ?_, by decide +kernel, by decide +kernel, fun k hk => ⟨rfl, ?_⟩, rfl⟩
  · obtain ⟨k, hk, rfl⟩ := List.mem_map.mp hw
    exact am_wu3 k (List.mem_range.mp hk)
  · revert k hk
    decide +kernel
theorem am_wu4_0 : u_lay RX4 TX4 0 ∈ am_T0 := (am_inT (am_t2 18 rfl) rfl)
theorem am_wu4_1 : u_lay RX4 TX4 1 ∈ am_T0 := (am_inT (am_t2 20 rfl) rfl)
theorem am_wu4_2 : u_lay RX4 TX4 2 ∈ am_T0 := (am_inT (am_t2 22 rfl) rfl)
theorem am_wu4_3 : u_lay RX4 TX4 3 ∈ am_T0 := (am_inT (am_t2 24 rfl) rfl)
theorem am_wu4_4 : u_lay RX4 TX4 4 ∈ am_T0 := (am_inT (am_t2 26 rfl) rfl)
theorem am_wu4_5 : u_lay RX4 TX4 5 ∈ am_T0 := (am_inT (am_t2 28 rfl) rfl)
theorem am_wu4 : ∀ k, k < 6 → u_lay RX4 TX4 k ∈ am_T0 := fun k hk => match k, hk with
  | 0, _ => am_wu4_0
  | 1, _ => am_wu4_1
  | 2, _ => am_wu4_2
  | 3, _ => am_wu4_3
  | 4, _ => am_wu4_4
  | 5, _ => am_wu4_5
  | n + 6, h => absurd h (by omega)
theorem am_okC4 : RX4 = am_cn 4 ∧ (∀ w ∈ u_ws RX4 TX4 6, w ∈ am_T0) ∧ (∀ k, k < 6 → parseFieldDescriptor (TX4 k).2.2.1 = some (am_ty 4 k)) ∧ (∀ a, a < 6 → ∀ b, b < 6 → a ≠ b → (TX4 a).2.1 ≠ (TX4 b).2.1) ∧ (∀ k, k < 6 → am_cF GG 4 k = (TX4 k).2.2.2 ∧ (TX4 k).1 = RX4) ∧ am_cN GG 4 = 6 := by
  refine ⟨rfl, fun w hw => ?_, by decide +kernel, by decide +kernel, fun k hk => ⟨rfl, ?_⟩, rfl⟩
  · obtain ⟨k, hk, rfl⟩ := List.mem_map.mp hw
    exact am_wu4 k (List.mem_range.mp hk)
  · revert k hk
    decide +kernel
theorem am_wu5_0 : u_lay RX5 TX5 0 ∈ am_T0 := (am_inT (am_t1 207 rfl) rfl)
theorem am_wu5_1 : u_lay RX5 TX5 1 ∈ am_T0 := (am_inT (am_t1 209 rfl) rfl)
theorem am_wu5_2 : u_lay RX5 TX5 2 ∈ am_T0 := (am_inT (am_t1 211 rfl) rfl)
theorem am_wu5_3 : u_lay RX5 TX5 3 ∈ am_T0 := (am_inT (am_t1 213 rfl) rfl)
theorem am_wu5_4 : u_lay RX5 TX5 4 ∈ am_T0 := (am_inT (am_t1 215 rfl) rfl)
theorem am_wu5_5 : u_lay RX5 TX5 5 ∈ am_T0 := (am_inT (am_t1 217 rfl) rfl)
theorem am_wu5_6 : u_lay RX5 TX5 6 ∈ am_T0 := (am_inT (am_t1 219 rfl) rfl)
theorem am_wu5_7 : u_lay RX5 TX5 7 ∈ am_T0 := (am_inT (am_t1 221 rfl) rfl)
theorem am_wu5_8 : u_lay RX5 TX5 8 ∈ am_T0 := (am_inT (am_t1 223 rfl) rfl)
theorem am_wu5_9 : u_lay RX5 TX5 9 ∈ am_T0 := (am_inT (am_t1 225 rfl) rfl)
theorem am_wu5_10 : u_lay RX5 TX5 10 ∈ am_T0 := (am_inT (am_t1 227 rfl) rfl)
theorem am_wu5_11 : u_lay RX5 TX5 11 ∈ am_T0 := (am_inT (am_t1 229 rfl) rfl)
theorem am_wu5_12 : u_lay RX5 TX5 12 ∈ am_T0 := (am_inT (am_t1 231 rfl) rfl)
theorem am_wu5_13 : u_lay RX5 TX5 13 ∈ am_T0 := (am_inT (am_t1 233 rfl) rfl)
theorem am_wu5_14 : u_lay RX5 TX5 14 ∈ am_T0 := (am_inT (am_t1 235 rfl) rfl)
theorem am_wu5_15 : u_lay RX5 TX5 15 ∈ am_T0 := (am_inT (am_t1 237 rfl) rfl)
theorem am_wu5_16 : u_lay RX5 TX5 16 ∈ am_T0 := (am_inT (am_t1 239 rfl) rfl)
theorem am_wu5_17 : u_lay RX5 TX5 17 ∈ am_T0 := (am_inT (am_t2 1 rfl) rfl)
theorem am_wu5_18 : u_lay RX5 TX5 18 ∈ am_T0 := (am_inT (am_t2 3 rfl) rfl)
theorem am_wu5 : ∀ k, k < 19 → u_lay RX5 TX5 k ∈ am_T0 := fun k hk => match k, hk with
  | 0, _ => am_wu5_0
  | 1, _ => am_wu5_1
  | 2, _ => am_wu5_2
  | 3, _ => am_wu5_3
  | 4, _ => am_wu5_4
  | 5, _ => am_wu5_5
  | 6, _ => am_wu5_6
  | 7, _ => am_wu5_7
  | 8, _ => am_wu5_8
  | 9, _ => am_wu5_9
  | 10, _ => am_wu5_10
  | 11, _ => am_wu5_11
  | 12, _ => am_wu5_12
  | 13, _ => am_wu5_13
  | 14, _ => am_wu5_14
  | 15, _ => am_wu5_15
  | 16, _ => am_wu5_16
  | 17, _ => am_wu5_17
  | 18, _ => am_wu5_18
  | n + 19, h => absurd h (by omega)
theorem am_okC5 : RX5 = am_cn 5 ∧ (∀ w ∈ u_ws RX5 TX5 19, w ∈ am_T0) ∧ (∀ k, k < 19 → parseFieldDescriptor (TX5 k).2.2.1 = some (am_ty 5 k)) ∧ (∀ a, a < 19 → ∀ b, b < 19 → a ≠ b → (TX5 a).2.1 ≠ (TX5 b).2.1) ∧ (∀ k, k < 19 → am_cF GG 5 k = (TX5 k).2.2.2 ∧ (TX5 k).1 = RX5) ∧ am_cN GG 5 = 19 := by
  refine ⟨rfl, fun w hw => ?_, by decide +kernel, by decide +kernel, fun k hk => ⟨rfl, ?_⟩, rfl⟩
  · obtain ⟨k, hk, rfl⟩ := List.mem_map.mp hw
    exact am_wu5 k (List.mem_range.mp hk)
  · revert k hk
    decide +kernel
theorem am_wu6_0 : u_lay RX6 TX6 0 ∈ am_T0 := (am_inT (am_t3 79 rfl) rfl)
theorem am_wu6_1 : u_lay RX6 TX6 1 ∈ am_T0 := (am_inT (am_t3 81 rfl) rfl)
theorem am_wu6_2 : u_lay RX6 TX6 2 ∈ am_T0 := (am_inT (am_t3 83 rfl) rfl)
theorem am_wu6_3 : u_lay RX6 TX6 3 ∈ am_T0 := (am_inT (am_t3 85 rfl) rfl)
theorem am_wu6_4 : u_lay RX6 TX6 4 ∈ am_T0 := (am_inT (am_t3 87 rfl) rfl)
theorem am_wu6_5 : u_lay RX6 TX6 5 ∈ am_T0 := (am_inT (am_t3 89 rfl) rfl)
theorem am_wu6_6 : u_lay RX6 TX6 6 ∈ am_T0 := (am_inT (am_t3 91 rfl) rfl)
theorem am_wu6_7 : u_lay RX6 TX6 7 ∈ am_T0 := (am_inT (am_t3 93 rfl) rfl)
theorem am_wu6_8 : u_lay RX6 TX6 8 ∈ am_T0 := (am_inT (am_t3 95 rfl) rfl)
theorem am_wu6_9 : u_lay RX6 TX6 9 ∈ am_T0 := (am_inT (am_t3 97 rfl) rfl)
theorem am_wu6_10 : u_lay RX6 TX6 10 ∈ am_T0 := (am_inT (am_t3 99 rfl) rfl)
theorem am_wu6_11 : u_lay RX6 TX6 11 ∈ am_T0 := (am_inT (am_t3 101 rfl) rfl)
theorem am_wu6_12 : u_lay RX6 TX6 12 ∈ am_T0 := (am_inT (am_t3 103 rfl) rfl)
theorem am_wu6_13 : u_lay RX6 TX6 13 ∈ am_T0 := (am_inT (am_t3 105 rfl) rfl)
theorem am_wu6_14 : u_lay RX6 TX6 14 ∈ am_T0 := (am_inT (am_t3 107 rfl) rfl)
theorem am_wu6_15 : u_lay RX6 TX6 15 ∈ am_T0 := (am_inT (am_t3 109 rfl) rfl)
theorem am_wu6_16 : u_lay RX6 TX6 16 ∈ am_T0 := (am_inT (am_t3 111 rfl) rfl)
theorem am_wu6 : ∀ k, k < 17 → u_lay RX6 TX6 k ∈ am_T0 := fun k hk => match k, hk with
  | 0, _ => am_wu6_0
  | 1, _ => am_wu6_1
  | 2, _ => am_wu6_2
  | 3, _ => am_wu6_3
  | 4, _ => am_wu6_4
  | 5, _ => am_wu6_5
  | 6, _ => am_wu6_6
  | 7, _ => am_wu6_7
  | 8, _ => am_wu6_8
  | 9, _ => am_wu6_9
  | 10, _ => am_wu6_10
  | 11, _ => am_wu6_11
  | 12, _ => am_wu6_12
  | 13, _ => am_wu6_13
  | 14, _ => am_wu6_14
  | 15, _ => am_wu6_15
  | 16, _ => am_wu6_16
  | n + 17, h => absurd h (by omega)
theorem am_okC6 : RX6 = am_cn 6 ∧ (∀ w ∈ u_ws RX6 TX6 17, w ∈ am_T0) ∧ (∀ k, k < 17 → parseFieldDescriptor (TX6 k).2.2.1 = some (am_ty 6 k)) ∧ (∀ a, a < 17 → ∀ b, b < 17 → a ≠ b → (TX6 a).2.1 ≠ (TX6 b).2.1) ∧ (∀ k, k < 17 → am_cF GG 6 k = (TX6 k).2.2.2 ∧ (TX6 k).1 = RX6) ∧ am_cN GG 6 = 17 := by
  refine ⟨rfl, fun w hw => ?_, by decide +kernel, by decide +kernel, fun k hk => ⟨rfl, ?_⟩, rfl⟩
  · obtain ⟨k, hk, rfl⟩ := List.mem_map.mp hw
    exact am_wu6 k (List.mem_range.mp hk)
  · revert k hk
    decide +kernel
theorem am_wu7_0 : u_lay RX7 TX7 0 ∈ am_T0 := (am_inT (am_t3 38 rfl) rfl)
theorem am_wu7_1 : u_lay RX7 TX7 1 ∈ am_T0 := (am_inT (am_t3 40 rfl) rfl)
theorem am_wu7_2 : u_lay RX7 TX7 2 ∈ am_T0 := (am_inT (am_t3 42 rfl) rfl)
theorem am_wu7_3 : u_lay RX7 TX7 3 ∈ am_T0 := (am_inT (am_t3 44 rfl) rfl)
theorem am_wu7_4 : u_lay RX7 TX7 4 ∈ am_T0 := (am_inT (am_t3 46 rfl) rfl)
theorem am_wu7_5 : u_lay RX7 TX7 5 ∈ am_T0 := (am_inT (am_t3 48 rfl) rfl)
theorem am_wu7 : ∀ k, k < 6 → u_lay RX7 TX7 k ∈ am_T0 := fun k hk => match k, hk with
  | 0, _ => am_wu7_0
  | 1, _ => am_wu7_1
  | 2, _ => am_wu7_2
  | 3, _ => am_wu7_3
  | 4, _ => am_wu7_4
  | 5, _ => am_wu7_5
  | n + 6, h => absurd h (by omega)
theorem am_okC7 : RX7 = am_cn 7 ∧ (∀ w ∈ u_ws RX7 TX7 6, w ∈ am_T0) ∧ (∀ k, k < 6 → parseFieldDescriptor (TX7 k).2.2.1 = some (am_ty 7 k)) ∧ (∀ a, a < 6 → ∀ b, b < 6 → a ≠ b → (TX7 a).2.1 ≠ (TX7 b).2.1) ∧ (∀ k, k < 6 → am_cF GG 7 k = (TX7 k).2.2.2 ∧ (TX7 k).1 = RX7) ∧ am_cN GG 7 = 6 := by
  refine ⟨rfl, fun w hw => ?_, by decide +kernel, by decide +kernel, fun k hk => ⟨rfl, ?_⟩, rfl⟩
  · obtain ⟨k, hk, rfl⟩ := List.mem_map.mp hw
    exact am_wu7 k (List.mem_range.mp hk)
  · revert k hk
    decide +kernel
theorem am_wu8_0 : u_lay RX8 TX8 0 ∈ am_T0 := (am_inT (am_t2 142 rfl) rfl)
theorem am_wu8_1 : u_lay RX8 TX8 1 ∈ am_T0 := (am_inT (am_t2 144 rfl) rfl)
theorem am_wu8_2 : u_lay RX8 TX8 2 ∈ am_T0 := (am_inT (am_t2 146 rfl) rfl)
theorem am_wu8_3 : u_lay RX8 TX8 3 ∈ am_T0 := (am_inT (am_t2 148 rfl) rfl)
theorem am_wu8_4 : u_lay RX8 TX8 4 ∈ am_T0 := (am_inT (am_t2 150 rfl) rfl)
theorem am_wu8_5 : u_lay RX8 TX8 5 ∈ am_T0 := (am_inT (am_t2 152 rfl) rfl)
theorem am_wu8_6 : u_lay RX8 TX8 6 ∈ am_T0 := (am_inT (am_t2 154 rfl) rfl)
theorem am_wu8_7 : u_lay RX8 TX8 7 ∈ am_T0 := (am_inT (am_t2 156 rfl) rfl)
theorem am_wu8_8 : u_lay RX8 TX8 8 ∈ am_T0 := (am_inT (am_t2 158 rfl) rfl)
theorem am_wu8_9 : u_lay RX8 TX8 9 ∈ am_T0 := (am_inT (am_t2 160 rfl) rfl)
theorem am_wu8_10 : u_lay RX8 TX8 10 ∈ am_T0 := (am_inT (am_t2 162 rfl) rfl)
theorem am_wu8 : ∀ k, k < 11 → u_lay RX8 TX8 k ∈ am_T0 := fun k hk => match k, hk with
  | 0, _ => am_wu8_0
  | 1, _ => am_wu8_1
  | 2, _ => am_wu8_2
  | 3, _ => am_wu8_3
  | 4, _ => am_wu8_4
  | 5, _ => am_wu8_5
  | 6, _ => am_wu8_6
  | 7, _ => am_wu8_7
  | 8, _ => am_wu8_8
  | 9, _ => am_wu8_9
  | 10, _ => am_wu8_10
  | n + 11, h => absurd h (by omega)
theorem am_okC8 : RX8 = am_cn 8 ∧ (∀ w ∈ u_ws RX8 TX8 11, w ∈ am_T0) ∧ (∀ k, k < 11 → parseFieldDescriptor (TX8 k).2.2.1 = some (am_ty 8 k)) ∧ (∀ a, a < 11 → ∀ b, b < 11 → a ≠ b → (TX8 a).2.1 ≠ (TX8 b).2.1) ∧ (∀ k, k < 11 → am_cF GG 8 k = (TX8 k).2.2.2 ∧ (TX8 k).1 = RX8) ∧ am_cN GG 8 = 11 := by
  refine ⟨rfl, fun w hw => ?_, by decide +kernel, by decide +kernel, fun k hk => ⟨rfl, ?_⟩, rfl⟩
  · obtain ⟨k, hk, rfl⟩ := List.mem_map.mp hw
    exact am_wu8 k (List.mem_range.mp hk)
  · revert k hk
    decide +kernel
theorem am_wu9_0 : u_lay RX9 TX9 0 ∈ am_T0 := (am_inT (am_t1 52 rfl) rfl)
theorem am_wu9_1 : u_lay RX9 TX9 1 ∈ am_T0 := (am_inT (am_t1 54 rfl) rfl)
theorem am_wu9_2 : u_lay RX9 TX9 2 ∈ am_T0 := (am_inT (am_t1 56 rfl) rfl)
theorem am_wu9_3 : u_lay RX9 TX9 3 ∈ am_T0 := (am_inT (am_t1 58 rfl) rfl)
theorem am_wu9_4 : u_lay RX9 TX9 4 ∈ am_T0 := (am_inT (am_t1 60 rfl) rfl)
theorem am_wu9_5 : u_lay RX9 TX9 5 ∈ am_T0 := (am_inT (am_t1 62 rfl) rfl)
theorem am_wu9 : ∀ k, k < 6 → u_lay RX9 TX9 k ∈ am_T0 := fun k hk => match k, hk with
  | 0, _ => am_wu9_0
  | 1, _ => am_wu9_1
  | 2, _ => am_wu9_2
  | 3, _ => am_wu9_3
  | 4, _ => am_wu9_4
  | 5, _ => am_wu9_5
  | n + 6, h => absurd h (by omega)
theorem am_okC9 : RX9 = am_cn 9 ∧ (∀ w ∈ u_ws RX9 TX9 6, w ∈ am_T0) ∧ (∀ k, k < 6 → parseFieldDescriptor (TX9 k).2.2.1 = some (am_ty 9 k)) ∧ (∀ a, a < 6 → ∀ b, b < 6 → a ≠ b → (TX9 a).2.1 ≠ (TX9 b).2.1) ∧ (∀ k, k < 6 → am_cF GG 9 k = (TX9 k).2.2.2 ∧ (TX9 k).1 = RX9) ∧ am_cN GG 9 = 6 := by
  refine ⟨rfl, fun w hw => ?_, by decide +kernel, by decide +kernel, fun k hk => ⟨rfl, ?_⟩, rfl⟩
  · obtain ⟨k, hk, rfl⟩ := List.mem_map.mp hw
    exact am_wu9 k (List.mem_range.mp hk)
  · revert k hk
    decide +kernel
theorem am_wu10_0 : u_lay RX10 TX10 0 ∈ am_T0 := (am_inT (am_t3 5 rfl) rfl)
theorem am_wu10_1 : u_lay RX10 TX10 1 ∈ am_T0 := (am_inT (am_t3 7 rfl) rfl)
theorem am_wu10_2 : u_lay RX10 TX10 2 ∈ am_T0 := (am_inT (am_t3 9 rfl) rfl)
theorem am_wu10_3 : u_lay RX10 TX10 3 ∈ am_T0 := (am_inT (am_t3 11 rfl) rfl)
theorem am_wu10_4 : u_lay RX10 TX10 4 ∈ am_T0 := (am_inT (am_t3 13 rfl) rfl)
theorem am_wu10_5 : u_lay RX10 TX10 5 ∈ am_T0 := (am_inT (am_t3 15 rfl) rfl)
theorem am_wu10 : ∀ k, k < 6 → u_lay RX10 TX10 k ∈ am_T0 := fun k hk => match k, hk with
  | 0, _ => am_wu10_0
  | 1, _ => am_wu10_1
  | 2, _ => am_wu10_2
  | 3, _ => am_wu10_3
  | 4, _ => am_wu10_4
  | 5, _ => am_wu10_5
  | n + 6, h => absurd h (by omega)
theorem am_okC10 : RX10 = am_cn 10 ∧ (∀ w ∈ u_ws RX10 TX10 6, w ∈ am_T0) ∧ (∀ k, k < 6 → parseFieldDescriptor (TX10 k).2.2.1 = some (am_ty 10 k)) ∧ (∀ a, a < 6 → ∀ b, b < 6 → a ≠ b → (TX10 a).2.1 ≠ (TX10 b).2.1) ∧ (∀ k, k < 6 → am_cF GG 10 k = (TX10 k).2.2.2 ∧ (TX10 k).1 = RX10) ∧ am_cN GG 10 = 6 := by
  refine ⟨rfl, fun w hw => ?_, by decide +kernel, by decide +kernel, fun k hk => ⟨rfl, ?_⟩, rfl⟩
  · obtain ⟨k, hk, rfl⟩ := List.mem_map.mp hw
    exact am_wu10 k (List.mem_range.mp hk)
  · revert k hk
    decide +kernel
theorem am_wu11_0 : u_lay RX11 TX11 0 ∈ am_T0 := (am_inT (am_t3 133 rfl) rfl)
theorem am_wu11_1 : u_lay RX11 TX11 1 ∈ am_T0 := (am_inT (am_t3 135 rfl) rfl)
theorem am_wu11_2 : u_lay RX11 TX11 2 ∈ am_T0 := (am_inT (am_t3 137 rfl) rfl)
theorem am_wu11_3 : u_lay RX11 TX11 3 ∈ am_T0 := (am_inT (am_t3 139 rfl) rfl)
theorem am_wu11_4 : u_lay RX11 TX11 4 ∈ am_T0 := (am_inT (am_t3 141 rfl) rfl)
theorem am_wu11_5 : u_lay RX11 TX11 5 ∈ am_T0 := (am_inT (am_t3 143 rfl) rfl)
theorem am_wu11_6 : u_lay RX11 TX11 6 ∈ am_T0 := (am_inT (am_t3 145 rfl) rfl)
theorem am_wu11_7 : u_lay RX11 TX11 7 ∈ am_T0 := (am_inT (am_t3 147 rfl) rfl)
theorem am_wu11_8 : u_lay RX11 TX11 8 ∈ am_T0 := (am_inT (am_t3 149 rfl) rfl)
theorem am_wu11_9 : u_lay RX11 TX11 9 ∈ am_T0 := (am_inT (am_t3 151 rfl) rfl)
theorem am_wu11_10 : u_lay RX11 TX11 10 ∈ am_T0 := (am_inT (am_t3 153 rfl) rfl)
theorem am_wu11_11 : u_lay RX11 TX11 11 ∈ am_T0 := (am_inT (am_t3 155 rfl) rfl)
theorem am_wu11_12 : u_lay RX11 TX11 12 ∈ am_T0 := (am_inT (am_t3 157 rfl) rfl)
theorem am_wu11_13 : u_lay RX11 TX11 13 ∈ am_T0 := (am_inT (am_t3 159 rfl) rfl)
theorem am_wu11_14 : u_lay RX11 TX11 14 ∈ am_T0 := (am_inT (am_t3 161 rfl) rfl)
theorem am_wu11_15 : u_lay RX11 TX11 15 ∈ am_T0 := (am_inT (am_t3 163 rfl) rfl)
theorem am_wu11_16 : u_lay RX11 TX11 16 ∈ am_T0 := (am_inT (am_t3 165 rfl) rfl)
theorem am_wu11_17 : u_lay RX11 TX11 17 ∈ am_T0 := (am_inT (am_t3 167 rfl) rfl)
theorem am_wu11_18 : u_lay RX11 TX11 18 ∈ am_T0 := (am_inT (am_t3 169 rfl) rfl)
theorem am_wu11 : ∀ k, k < 19 → u_lay RX11 TX11 k ∈ am_T0 := fun k hk => match k, hk with
  | 0, _ => am_wu11_0
  | 1, _ => am_wu11_1
  | 2, _ => am_wu11_2
  | 3, _ => am_wu11_3
  | 4, _ => am_wu11_4
  | 5, _ => am_wu11_5
  | 6, _ => am_wu11_6
  | 7, _ => am_wu11_7
  | 8, _ => am_wu11_8
  | 9, _ => am_wu11_9
  | 10, _ => am_wu11_10
  | 11, _ => am_wu11_11
  | 12, _ => am_wu11_12
  | 13, _ => am_wu11_13
  | 14, _ => am_wu11_14
  | 15, _ => am_wu11_15
  | 16, _ => am_wu11_16
  | 17, _ => am_wu11_17
  | 18, _ => am_wu11_18
  | n + 19, h => absurd h (by omega)
theorem am_okC11 : RX11 = am_cn 11 ∧ (∀ w ∈ u_ws RX11 TX11 19, w ∈ am_T0) ∧ (∀ k, k < 19 → parseFieldDescriptor (TX11 k).2.2.1 = some (am_ty 11 k)) ∧ (∀ a, a < 19 → ∀ b, b < 19 → a ≠ b → (TX11 a).2.1 ≠ (TX11 b).2.1) ∧ (∀ k, k < 19 → am_cF GG 11 k = (TX11 k).2.2.2 ∧ (TX11 k).1 = RX11) ∧ am_cN GG 11 = 19 := by
  refine ⟨rfl, fun w hw => ?_, by decide +kernel, by decide +kernel, fun k hk => ⟨rfl, ?_⟩, rfl⟩
  · obtain ⟨k, hk, rfl⟩ := List.mem_map.mp hw
    exact am_wu11 k (List.mem_range.mp hk)
  · revert k hk
    decide +kernel
theorem am_wu12_0 : u_lay RX12 TX12 0 ∈ am_T0 := (am_inT (am_t7 122 rfl) rfl)
theorem am_wu12_1 : u_lay RX12 TX12 1 ∈ am_T0 := (am_inT (am_t7 124 rfl) rfl)
theorem am_wu12_2 : u_lay RX12 TX12 2 ∈ am_T0 := (am_inT (am_t7 126 rfl) rfl)
theorem am_wu12_3 : u_lay RX12 TX12 3 ∈ am_T0 := (am_inT (am_t7 128 rfl) rfl)
theorem am_wu12_4 : u_lay RX12 TX12 4 ∈ am_T0 := (am_inT (am_t7 130 rfl) rfl)
theorem am_wu12_5 : u_lay RX12 TX12 5 ∈ am_T0 := (am_inT (am_t7 132 rfl) rfl)
theorem am_wu12_6 : u_lay RX12 TX12 6 ∈ am_T0 := (am_inT (am_t7 134 rfl) rfl)
theorem am_wu12_7 : u_lay RX12 TX12 7 ∈ am_T0 := (am_inT (am_t7 136 rfl) rfl)
theorem am_wu12_8 : u_lay RX12 TX12 8 ∈ am_T0 := (am_inT (am_t7 138 rfl) rfl)
theorem am_wu12_9 : u_lay RX12 TX12 9 ∈ am_T0 := (am_inT (am_t7 140 rfl) rfl)
theorem am_wu12_10 : u_lay RX12 TX12 10 ∈ am_T0 := (am_inT (am_t7 142 rfl) rfl)
theorem am_wu12_11 : u_lay RX12 TX12 11 ∈ am_T0 := (am_inT (am_t7 144 rfl) rfl)
theorem am_wu12_12 : u_lay RX12 TX12 12 ∈ am_T0 := (am_inT (am_t7 146 rfl) rfl)
theorem am_wu12_13 : u_lay RX12 TX12 13 ∈ am_T0 := (am_inT (am_t7 148 rfl) rfl)
theorem am_wu12_14 : u_lay RX12 TX12 14 ∈ am_T0 := (am_inT (am_t7 150 rfl) rfl)
theorem am_wu12_15 : u_lay RX12 TX12 15 ∈ am_T0 := (am_inT (am_t7 152 rfl) rfl)
theorem am_wu12_16 : u_lay RX12 TX12 16 ∈ am_T0 := (am_inT (am_t7 154 rfl) rfl)
theorem am_wu12_17 : u_lay RX12 TX12 17 ∈ am_T0 := (am_inT (am_t7 156 rfl) rfl)
theorem am_wu12_18 : u_lay RX12 TX12 18 ∈ am_T0 := (am_inT (am_t7 158 rfl) rfl)
theorem am_wu12_19 : u_lay RX12 TX12 19 ∈ am_T0 := (am_inT (am_t7 160 rfl) rfl)
theorem am_wu12_20 : u_lay RX12 TX12 20 ∈ am_T0 := (am_inT (am_t7 162 rfl) rfl)
theorem am_wu12_21 : u_lay RX12 TX12 21 ∈ am_T0 := (am_inT (am_t7 164 rfl) rfl)
theorem am_wu12_22 : u_lay RX12 TX12 22 ∈ am_T0 := (am_inT (am_t7 166 rfl) rfl)
theorem am_wu12_23 : u_lay RX12 TX12 23 ∈ am_T0 := (am_inT (am_t7 168 rfl) rfl)
theorem am_wu12_24 : u_lay RX12 TX12 24 ∈ am_T0 := (am_inT (am_t7 170 rfl) rfl)
theorem am_wu12_25 : u_lay RX12 TX12 25 ∈ am_T0 := (am_inT (am_t7 172 rfl) rfl)
theorem am_wu12_26 : u_lay RX12 TX12 26 ∈ am_T0 := (am_inT (am_t7 174 rfl) rfl)
theorem am_wu12_27 : u_lay RX12 TX12 27 ∈ am_T0 := (am_inT (am_t7 176 rfl) rfl)
theorem am_wu12_28 : u_lay RX12 TX12 28 ∈ am_T0 := (am_inT (am_t7 178 rfl) rfl)
theorem am_wu12_29 : u_lay RX12 TX12 29 ∈ am_T0 := (am_inT (am_t7 180 rfl) rfl)
theorem am_wu12_30 : u_lay RX12 TX12 30 ∈ am_T0 := (am_inT (am_t7 182 rfl) rfl)
theorem am_wu12_31 : u_lay RX12 TX12 31 ∈ am_T0 := (am_inT (am_t7 184 rfl) rfl)
theorem am_wu12_32 : u_lay RX12 TX12 32 ∈ am_T0 := (am_inT (am_t7 186 rfl) rfl)
theorem am_wu12_33 : u_lay RX12 TX12 33 ∈ am_T0 := (am_inT (am_t7 188 rfl) rfl)
theorem am_wu12_34 : u_lay RX12 TX12 34 ∈ am_T0 := (am_inT (am_t7 190 rfl) rfl)
theorem am_wu12_35 : u_lay RX12 TX12 35 ∈ am_T0 := (am_inT (am_t7 192 rfl) rfl)
theorem am_wu12_36 : u_lay RX12 TX12 36 ∈ am_T0 := (am_inT (am_t7 194 rfl) rfl)
theorem am_wu12_37 : u_lay RX12 TX12 37 ∈ am_T0 := (am_inT (am_t7 196 rfl) rfl)
theorem am_wu12_38 : u_lay RX12 TX12 38 ∈ am_T0 := (am_inT (am_t7 198 rfl) rfl)
theorem am_wu12_39 : u_lay RX12 TX12 39 ∈ am_T0 := (am_inT (am_t7 200 rfl) rfl)
theorem am_wu12_40 : u_lay RX12 TX12 40 ∈ am_T0 := (am_inT (am_t7 202 rfl) rfl)
theorem am_wu12_41 : u_lay RX12 TX12 41 ∈ am_T0 := (am_inT (am_t7 204 rfl) rfl)
theorem am_wu12_42 : u_lay RX12 TX12 42 ∈ am_T0 := (am_inT (am_t7 206 rfl) rfl)
theorem am_wu12_43 : u_lay RX12 TX12 43 ∈ am_T0 := (am_inT (am_t7 208 rfl) rfl)
theorem am_wu12_44 : u_lay RX12 TX12 44 ∈ am_T0 := (am_inT (am_t7 210 rfl) rfl)
theorem am_wu12_45 : u_lay RX12 TX12 45 ∈ am_T0 := (am_inT (am_t7 212 rfl) rfl)
theorem am_wu12_46 : u_lay RX12 TX12 46 ∈ am_T0 := (am_inT (am_t7 214 rfl) rfl)
theorem am_wu12_47 : u_lay RX12 TX12 47 ∈ am_T0 := (am_inT (am_t7 216 rfl) rfl)
theorem am_wu12_48 : u_lay RX12 TX12 48 ∈ am_T0 := (am_inT (am_t7 218 rfl) rfl)
theorem am_wu12_49 : u_lay RX12 TX12 49 ∈ am_T0 := (am_inT (am_t7 220 rfl) rfl)
theorem am_wu12_50 : u_lay RX12 TX12 50 ∈ am_T0 := (am_inT (am_t7 222 rfl) rfl)
theorem am_wu12_51 : u_lay RX12 TX12 51 ∈ am_T0 := (am_inT (am_t7 224 rfl) rfl)
theorem am_wu12_52 : u_lay RX12 TX12 52 ∈ am_T0 := (am_inT (am_t7 226 rfl) rfl)
theorem am_wu12_53 : u_lay RX12 TX12 53 ∈ am_T0 := (am_inT (am_t7 228 rfl) rfl)
theorem am_wu12_54 : u_lay RX12 TX12 54 ∈ am_T0 := (am_inT (am_t7 230 rfl) rfl)
theorem am_wu12_55 : u_lay RX12 TX12 55 ∈ am_T0 := (am_inT (am_t7 232 rfl) rfl)
theorem am_wu12_56 : u_lay RX12 TX12 56 ∈ am_T0 := (am_inT (am_t7 234 rfl) rfl)
theorem am_wu12_57 : u_lay RX12 TX12 57 ∈ am_T0 := (am_inT (am_t7 236 rfl) rfl)
theorem am_wu12_58 : u_lay RX12 TX12 58 ∈ am_T0 := (am_inT (am_t7 238 rfl) rfl)
theorem am_wu12_59 : u_lay RX12 TX12 59 ∈ am_T0 := (am_inT (am_t8 0 rfl) rfl)
theorem am_wu12_60 : u_lay RX12 TX12 60 ∈ am_T0 := (am_inT (am_t8 2 rfl) rfl)
theorem am_wu12_61 : u_lay RX12 TX12 61 ∈ am_T0 := (am_inT (am_t8 4 rfl) rfl)
theorem am_wu12_62 : u_lay RX12 TX12 62 ∈ am_T0 := (am_inT (am_t8 6 rfl) rfl)
theorem am_wu12_63 : u_lay RX12 TX12 63 ∈ am_T0 := (am_inT (am_t8 8 rfl) rfl)
theorem am_wu12_64 : u_lay RX12 TX12 64 ∈ am_T0 := (am_inT (am_t8 10 rfl) rfl)
theorem am_wu12_65 : u_lay RX12 TX12 65 ∈ am_T0 := (am_inT (am_t8 12 rfl) rfl)
theorem am_wu12_66 : u_lay RX12 TX12 66 ∈ am_T0 := (am_inT (am_t8 14 rfl) rfl)
theorem am_wu12_67 : u_lay RX12 TX12 67 ∈ am_T0 := (am_inT (am_t8 16 rfl) rfl)
theorem am_wu12_68 : u_lay RX12 TX12 68 ∈ am_T0 := (am_inT (am_t8 18 rfl) rfl)
theorem am_wu12_69 : u_lay RX12 TX12 69 ∈ am_T0 := (am_inT (am_t8 20 rfl) rfl)
theorem am_wu12_70 : u_lay RX12 TX12 70 ∈ am_T0 := (am_inT (am_t8 22 rfl) rfl)
theorem am_wu12_71 : u_lay RX12 TX12 71 ∈ am_T0 := (am_inT (am_t8 24 rfl) rfl)
theorem am_wu12_72 : u_lay RX12 TX12 72 ∈ am_T0 := (am_inT (am_t8 26 rfl) rfl)
theorem am_wu12_73 : u_lay RX12 TX12 73 ∈ am_T0 := (am_inT (am_t8 28 rfl) rfl)
theorem am_wu12_74 : u_lay RX12 TX12 74 ∈ am_T0 := (am_inT (am_t8 30 rfl) rfl)
theorem am_wu12_75 : u_lay RX12 TX12 75 ∈ am_T0 := (am_inT (am_t8 32 rfl) rfl)
theorem am_wu12_76 : u_lay RX12 TX12 76 ∈ am_T0 := (am_inT (am_t8 34 rfl) rfl)
theorem am_wu12_77 : u_lay RX12 TX12 77 ∈ am_T0 := (am_inT (am_t8 36 rfl) rfl)
theorem am_wu12_78 : u_lay RX12 TX12 78 ∈ am_T0 := (am_inT (am_t8 38 rfl) rfl)
theorem am_wu12_79 : u_lay RX12 TX12 79 ∈ am_T0 := (am_inT (am_t8 40 rfl) rfl)
theorem am_wu12_80 : u_lay RX12 TX12 80 ∈ am_T0 := (am_inT (am_t8 42 rfl) rfl)
theorem am_wu12_81 : u_lay RX12 TX12 81 ∈ am_T0 := (am_inT (am_t8 44 rfl) rfl)
theorem am_wu12_82 : u_lay RX12 TX12 82 ∈ am_T0 := (am_inT (am_t8 46 rfl) rfl)
theorem am_wu12_83 : u_lay RX12 TX12 83 ∈ am_T0 := (am_inT (am_t8 48 rfl) rfl)
theorem am_wu12_84 : u_lay RX12 TX12 84 ∈ am_T0 := (am_inT (am_t8 50 rfl) rfl)
theorem am_wu12_85 : u_lay RX12 TX12 85 ∈ am_T0 := (am_inT (am_t8 52 rfl) rfl)
theorem am_wu12_86 : u_lay RX12 TX12 86 ∈ am_T0 := (am_inT (am_t8 54 rfl) rfl)
theorem am_wu12_87 : u_lay RX12 TX12 87 ∈ am_T0 := (am_inT (am_t8 56 rfl) rfl)
theorem am_wu12_88 : u_lay RX12 TX12 88 ∈ am_T0 := (am_inT (am_t8 58 rfl) rfl)
theorem am_wu12_89 : u_lay RX12 TX12 89 ∈ am_T0 := (am_inT (am_t8 60 rfl) rfl)
theorem am_wu12_90 : u_lay RX12 TX12 90 ∈ am_T0 := (am_inT (am_t8 62 rfl) rfl)
theorem am_wu12_91 : u_lay RX12 TX12 91 ∈ am_T0 := (am_inT (am_t8 64 rfl) rfl)
theorem am_wu12_92 : u_lay RX12 TX12 92 ∈ am_T0 := (am_inT (am_t8 66 rfl) rfl)
theorem am_wu12_93 : u_lay RX12 TX12 93 ∈ am_T0 := (am_inT (am_t8 68 rfl) rfl)
theorem am_wu12 : ∀ k, k < 94 → u_lay RX12 TX12 k ∈ am_T0 := fun k hk => match k, hk with
  | 0, _ => am_wu12_0
  | 1, _ => am_wu12_1
  | 2, _ => am_wu12_2
  | 3, _ => am_wu12_3
  | 4, _ => am_wu12_4
  | 5, _ => am_wu12_5
  | 6, _ => am_wu12_6
  | 7, _ => am_wu12_7
  | 8, _ => am_wu12_8
  | 9, _ => am_wu12_9
  | 10, _ => am_wu12_10
  | 11, _ => am_wu12_11
  | 12, _ => am_wu12_12
  | 13, _ => am_wu12_13
  | 14, _ => am_wu12_14
  | 15, _ => am_wu12_15
  | 16, _ => am_wu12_16
  | 17, _ => am_wu12_17
  | 18, _ => am_wu12_18
  | 19, _ => am_wu12_19
  | 20, _ => am_wu12_20
  | 21, _ => am_wu12_21
  | 22, _ => am_wu12_22
  | 23, _ => am_wu12_23
  | 24, _ => am_wu12_24
  | 25, _ => am_wu12_25
  | 26, _ => am_wu12_26
  | 27, _ => am_wu12_27
  | 28, _ => am_wu12_28
  | 29, _ => am_wu12_29
  | 30, _ => am_wu12_30
  | 31, _ => am_wu12_31
  | 32, _ => am_wu12_32
  | 33, _ => am_wu12_33
  | 34, _ => am_wu12_34
  | 35, _ => am_wu12_35
  | 36, _ => am_wu12_36
  | 37, _ => am_wu12_37
  | 38, _ => am_wu12_38
  | 39, _ => am_wu12_39
  | 40, _ => am_wu12_40
  | 41, _ => am_wu12_41
  | 42, _ => am_wu12_42
  | 43, _ => am_wu12_43
  | 44, _ => am_wu12_44
  | 45, _ => am_wu12_45
  | 46, _ => am_wu12_46
  | 47, _ => am_wu12_47
  | 48, _ => am_wu12_48
  | 49, _ => am_wu12_49
  | 50, _ => am_wu12_50
  | 51, _ => am_wu12_51
  | 52, _ => am_wu12_52
  | 53, _ => am_wu12_53
  | 54, _ => am_wu12_54
  | 55, _ => am_wu12_55
  | 56, _ => am_wu12_56
  | 57, _ => am_wu12_57
  | 58, _ => am_wu12_58
  | 59, _ => am_wu12_59
  | 60, _ => am_wu12_60
  | 61, _ => am_wu12_61
  | 62, _ => am_wu12_62
  | 63, _ => am_wu12_63
  | 64, _ => am_wu12_64
  | 65, _ => am_wu12_65
  | 66, _ => am_wu12_66
  | 67, _ => am_wu12_67
  | 68, _ => am_wu12_68
  | 69, _ => am_wu12_69
  | 70, _ => am_wu12_70
  | 71, _ => am_wu12_71
  | 72, _ => am_wu12_72
  | 73, _ => am_wu12_73
  | 74, _ => am_wu12_74
  | 75, _ => am_wu12_75
  | 76, _ => am_wu12_76
  | 77, _ => am_wu12_77
  | 78, _ => am_wu12_78
  | 79, _ => am_wu12_79
  | 80, _ => am_wu12_80
  | 81, _ => am_wu12_81
  | 82, _ => am_wu12_82
  | 83, _ => am_wu12_83
  | 84, _ => am_wu12_84
  | 85, _ => am_wu12_85
  | 86, _ => am_wu12_86
  | 87, _ => am_wu12_87
  | 88, _ => am_wu12_88
  | 89, _ => am_wu12_89
  | 90, _ => am_wu12_90
  | 91, _ => am_wu12_91
  | 92, _ => am_wu12_92
  | 93, _ => am_wu12_93
  | n + 94, h => absurd h (by omega)
theorem am_okC12 : RX12 = am_cn 12 ∧ (∀ w ∈ u_ws RX12 TX12 94, w ∈ am_T0) ∧ (∀ k, k < 94 → parseFieldDescriptor (TX12 k).2.2.1 = some (am_ty 12 k)) ∧ (∀ a, a < 94 → ∀ b, b < 94 → a ≠ b → (TX12 a).2.1 ≠ (TX12 b).2.1) ∧ (∀ k, k < 94 → am_cF GG 12 k = (TX12 k).2.2.2 ∧ (TX12 k).1 = RX12) ∧ am_cN GG 12 = 94 := by
  refine ⟨rfl, fun w hw => ?_, by decide +kernel, by decide +kernel, fun k hk => ⟨rfl, ?_⟩, rfl⟩
  · obtain ⟨k, hk, rfl⟩ := List.mem_map.mp hw
    exact am_wu12 k (List.mem_range.mp hk)
  · revert k hk
    decide +kernel
theorem am_okC : am_OkC GG am_cls am_cn am_T0 := by
  intro ci C T N h
  match ci, h with
  | 0, h => cases h; exact am_okC0
  | 1, h => cases h; exact am_okC1
  | 2, h => cases h; exact am_okC2
  | 3, h => cases h; exact am_okC3
  | 4, h => cases h; exact am_okC4
  | 5, h => cases h; exact am_okC5
  | 6, h => cases h; exact am_okC6
  | 7, h => cases h; exact am_okC7
  | 8, h => cases h; exact am_okC8
  | 9, h => cases h; exact am_okC9
  | 10, h => cases h; exact am_okC10
  | 11, h => cases h; exact am_okC11
  | 12, h => cases h; exact am_okC12
  | n + 13, h => cases h
theorem am_okN2_0 : ∃ C T N, am_cls[(((9, 1) : Nat × Nat)).2]? = some (C, T, N) ∧ Cond.classLink (am_cn 2) (((9, 1) : Nat × Nat)).1 C ∈ am_T0 ∧ Cond.instantiable C N ∈ am_T0 ∧ Cond.initialized C ∈ am_T0 := ⟨RX1, TX1, 9, rfl, (am_inT (am_t2 68 rfl) rfl), (am_inT (am_t2 69 rfl) rfl), (am_inT (am_t1 12 rfl) rfl)⟩
theorem am_okN2_1 : ∃ C T N, am_cls[(((67, 8) : Nat × Nat)).2]? = some (C, T, N) ∧ Cond.classLink (am_cn 2) (((67, 8) : Nat × Nat)).1 C ∈ am_T0 ∧ Cond.instantiable C N ∈ am_T0 ∧ Cond.initialized C ∈ am_T0 := ⟨RX8, TX8, 11, rfl, (am_inT (am_t2 113 rfl) rfl), (am_inT (am_t2 114 rfl) rfl), (am_inT (am_t1 13 rfl) rfl)⟩
theorem am_okN2 : ∀ q ∈ am_tc_2, ∃ C T N, am_cls[(q).2]? = some (C, T, N) ∧ Cond.classLink (am_cn 2) (q).1 C ∈ am_T0 ∧ Cond.instantiable C N ∈ am_T0 ∧ Cond.initialized C ∈ am_T0 := by
  unfold am_tc_2
  exact List.forall_mem_cons.mpr ⟨am_okN2_0, List.forall_mem_cons.mpr ⟨am_okN2_1, (fun _ h => nomatch h)⟩⟩
theorem am_okN5_0 : ∃ C T N, am_cls[(((9, 3) : Nat × Nat)).2]? = some (C, T, N) ∧ Cond.classLink (am_cn 5) (((9, 3) : Nat × Nat)).1 C ∈ am_T0 ∧ Cond.instantiable C N ∈ am_T0 ∧ Cond.initialized C ∈ am_T0 := ⟨RX3, TX3, 5, rfl, (am_inT (am_t1 73 rfl) rfl), (am_inT (am_t1 74 rfl) rfl), (am_inT (am_t1 4 rfl) rfl)⟩
theorem am_okN5 : ∀ q ∈ am_tc_5, ∃ C T N, am_cls[(q).2]? = some (C, T, N) ∧ Cond.classLink (am_cn 5) (q).1 C ∈ am_T0 ∧ Cond.instantiable C N ∈ am_T0 ∧ Cond.initialized C ∈ am_T0 := by
  unfold am_tc_5
  exact List.forall_mem_cons.mpr ⟨am_okN5_0, (fun _ h => nomatch h)⟩
theorem am_okN6_0 : ∃ C T N, am_cls[(((18, 7) : Nat × Nat)).2]? = some (C, T, N) ∧ Cond.classLink (am_cn 6) (((18, 7) : Nat × Nat)).1 C ∈ am_T0 ∧ Cond.instantiable C N ∈ am_T0 ∧ Cond.initialized C ∈ am_T0 := ⟨RX7, TX7, 6, rfl, (am_inT (am_t3 24 rfl) rfl), (am_inT (am_t3 25 rfl) rfl), (am_inT (am_t1 16 rfl) rfl)⟩
theorem am_okN6 : ∀ q ∈ am_tc_6, ∃ C T N, am_cls[(q).2]? = some (C, T, N) ∧ Cond.classLink (am_cn 6) (q).1 C ∈ am_T0 ∧ Cond.instantiable C N ∈ am_T0 ∧ Cond.initialized C ∈ am_T0 := by
  unfold am_tc_6
  exact List.forall_mem_cons.mpr ⟨am_okN6_0, (fun _ h => nomatch h)⟩
theorem am_okN11_0 : ∃ C T N, am_cls[(((20, 9) : Nat × Nat)).2]? = some (C, T, N) ∧ Cond.classLink (am_cn 11) (((20, 9) : Nat × Nat)).1 C ∈ am_T0 ∧ Cond.instantiable C N ∈ am_T0 ∧ Cond.initialized C ∈ am_T0 := ⟨RX9, TX9, 6, rfl, (am_inT (am_t1 37 rfl) rfl), (am_inT (am_t1 38 rfl) rfl), (am_inT (am_t1 2 rfl) rfl)⟩
theorem am_okN11_1 : ∃ C T N, am_cls[(((29, 5) : Nat × Nat)).2]? = some (C, T, N) ∧ Cond.classLink (am_cn 11) (((29, 5) : Nat × Nat)).1 C ∈ am_T0 ∧ Cond.instantiable C N ∈ am_T0 ∧ Cond.initialized C ∈ am_T0 := ⟨RX5, TX5, 19, rfl, (am_inT (am_t1 67 rfl) rfl), (am_inT (am_t1 68 rfl) rfl), (am_inT (am_t1 3 rfl) rfl)⟩
theorem am_okN11_2 : ∃ C T N, am_cls[(((43, 4) : Nat × Nat)).2]? = some (C, T, N) ∧ Cond.classLink (am_cn 11) (((43, 4) : Nat × Nat)).1 C ∈ am_T0 ∧ Cond.instantiable C N ∈ am_T0 ∧ Cond.initialized C ∈ am_T0 := ⟨RX4, TX4, 6, rfl, (am_inT (am_t2 6 rfl) rfl), (am_inT (am_t2 7 rfl) rfl), (am_inT (am_t1 9 rfl) rfl)⟩
theorem am_okN11_3 : ∃ C T N, am_cls[(((52, 0) : Nat × Nat)).2]? = some (C, T, N) ∧ Cond.classLink (am_cn 11) (((52, 0) : Nat × Nat)).1 C ∈ am_T0 ∧ Cond.instantiable C N ∈ am_T0 ∧ Cond.initialized C ∈ am_T0 := ⟨RX0, TX0, 7, rfl, (am_inT (am_t2 31 rfl) rfl), (am_inT (am_t2 32 rfl) rfl), (am_inT (am_t1 10 rfl) rfl)⟩
theorem am_okN11_4 : ∃ C T N, am_cls[(((61, 2) : Nat × Nat)).2]? = some (C, T, N) ∧ Cond.classLink (am_cn 11) (((61, 2) : Nat × Nat)).1 C ∈ am_T0 ∧ Cond.instantiable C N ∈ am_T0 ∧ Cond.initialized C ∈ am_T0 := ⟨RX2, TX2, 17, rfl, (am_inT (am_t2 62 rfl) rfl), (am_inT (am_t2 63 rfl) rfl), (am_inT (am_t1 11 rfl) rfl)⟩
theorem am_okN11_5 : ∃ C T N, am_cls[(((78, 10) : Nat × Nat)).2]? = some (C, T, N) ∧ Cond.classLink (am_cn 11) (((78, 10) : Nat × Nat)).1 C ∈ am_T0 ∧ Cond.instantiable C N ∈ am_T0 ∧ Cond.initialized C ∈ am_T0 := ⟨RX10, TX10, 6, rfl, (am_inT (am_t2 227 rfl) rfl), (am_inT (am_t2 228 rfl) rfl), (am_inT (am_t1 14 rfl) rfl)⟩
theorem am_okN11_6 : ∃ C T N, am_cls[(((91, 6) : Nat × Nat)).2]? = some (C, T, N) ∧ Cond.classLink (am_cn 11) (((91, 6) : Nat × Nat)).1 C ∈ am_T0 ∧ Cond.instantiable C N ∈ am_T0 ∧ Cond.initialized C ∈ am_T0 := ⟨RX6, TX6, 17, rfl, (am_inT (am_t3 18 rfl) rfl), (am_inT (am_t3 19 rfl) rfl), (am_inT (am_t1 15 rfl) rfl)⟩
theorem am_okN11 : ∀ q ∈ am_tc_11, ∃ C T N, am_cls[(q).2]? = some (C, T, N) ∧ Cond.classLink (am_cn 11) (q).1 C ∈ am_T0 ∧ Cond.instantiable C N ∈ am_T0 ∧ Cond.initialized C ∈ am_T0 := by
  unfold am_tc_11
  exact List.forall_mem_cons.mpr ⟨am_okN11_0, List.forall_mem_cons.mpr ⟨am_okN11_1, List.forall_mem_cons.mpr ⟨am_okN11_2, List.forall_mem_cons.mpr ⟨am_okN11_3, List.forall_mem_cons.mpr ⟨am_okN11_4, List.forall_mem_cons.mpr ⟨am_okN11_5, List.forall_mem_cons.mpr ⟨am_okN11_6, (fun _ h => nomatch h)⟩⟩⟩⟩⟩⟩⟩
theorem am_okN13_0 : ∃ C T N, am_cls[(((8, 11) : Nat × Nat)).2]? = some (C, T, N) ∧ Cond.classLink (am_cn 13) (((8, 11) : Nat × Nat)).1 C ∈ am_T0 ∧ Cond.instantiable C N ∈ am_T0 ∧ Cond.initialized C ∈ am_T0 := ⟨RX11, TX11, 19, rfl, (am_inT (am_t1 29 rfl) rfl), (am_inT (am_t1 30 rfl) rfl), (am_inT (am_t1 1 rfl) rfl)⟩
theorem am_okN13_1 : ∃ C T N, am_cls[(((69, 12) : Nat × Nat)).2]? = some (C, T, N) ∧ Cond.classLink (am_cn 13) (((69, 12) : Nat × Nat)).1 C ∈ am_T0 ∧ Cond.instantiable C N ∈ am_T0 ∧ Cond.initialized C ∈ am_T0 := ⟨RX12, TX12, 94, rfl, (am_inT (am_t7 17 rfl) rfl), (am_inT (am_t7 18 rfl) rfl), (am_inT (am_t1 17 rfl) rfl)⟩
theorem am_okN13 : ∀ q ∈ am_tc_13, ∃ C T N, am_cls[(q).2]? = some (C, T, N) ∧ Cond.classLink (am_cn 13) (q).1 C ∈ am_T0 ∧ Cond.instantiable C N ∈ am_T0 ∧ Cond.initialized C ∈ am_T0 := by
  unfold am_tc_13
  exact List.forall_mem_cons.mpr ⟨am_okN13_0, List.forall_mem_cons.mpr ⟨am_okN13_1, (fun _ h => nomatch h)⟩⟩
theorem am_okN : ∀ e ∈ am_tc, ∀ q ∈ e.2, ∃ C T N, am_cls[(q).2]? = some (C, T, N) ∧ Cond.classLink (am_cn e.1) (q).1 C ∈ am_T0 ∧ Cond.instantiable C N ∈ am_T0 ∧ Cond.initialized C ∈ am_T0 := by
  unfold am_tc
  exact List.forall_mem_cons.mpr ⟨am_okN2, List.forall_mem_cons.mpr ⟨am_okN5, List.forall_mem_cons.mpr ⟨am_okN6, List.forall_mem_cons.mpr ⟨am_okN11, List.forall_mem_cons.mpr ⟨am_okN13, (fun _ h => nomatch h)⟩⟩⟩⟩⟩
theorem am_okI1_0 : Cond.constant (am_cn 1) (((40, (-1640531535)) : Nat × Int32)).1 (((40, (-1640531535)) : Nat × Int32)).2 ∈ am_T0 := (am_inT (am_t5 156 rfl) rfl)
theorem am_okI1_1 : Cond.constant (am_cn 1) (((41, (-2048144789)) : Nat × Int32)).1 (((41, (-2048144789)) : Nat × Int32)).2 ∈ am_T0 := (am_inT (am_t5 157 rfl) rfl)
theorem am_okI1 : ∀ q ∈ am_ti_1, Cond.constant (am_cn 1) (q).1 (q).2 ∈ am_T0 := by
  unfold am_ti_1
  exact List.forall_mem_cons.mpr ⟨am_okI1_0, List.forall_mem_cons.mpr ⟨am_okI1_1, (fun _ h => nomatch h)⟩⟩
theorem am_okI7_0 : Cond.constant (am_cn 7) (((47, (343140)) : Nat × Int32)).1 (((47, (343140)) : Nat × Int32)).2 ∈ am_T0 := (am_inT (am_t6 142 rfl) rfl)
theorem am_okI7 : ∀ q ∈ am_ti_7, Cond.constant (am_cn 7) (q).1 (q).2 ∈ am_T0 := by
  unfold am_ti_7
  exact List.forall_mem_cons.mpr ⟨am_okI7_0, (fun _ h => nomatch h)⟩
theorem am_okI8_0 : Cond.constant (am_cn 8) (((51, (58192)) : Nat × Int32)).1 (((51, (58192)) : Nat × Int32)).2 ∈ am_T0 := (am_inT (am_t5 119 rfl) rfl)
theorem am_okI8_1 : Cond.constant (am_cn 8) (((68, (232768)) : Nat × Int32)).1 (((68, (232768)) : Nat × Int32)).2 ∈ am_T0 := (am_inT (am_t5 138 rfl) rfl)
theorem am_okI8_2 : Cond.constant (am_cn 8) (((69, (131072)) : Nat × Int32)).1 (((69, (131072)) : Nat × Int32)).2 ∈ am_T0 := (am_inT (am_t5 139 rfl) rfl)
theorem am_okI8_3 : Cond.constant (am_cn 8) (((70, (-1640531535)) : Nat × Int32)).1 (((70, (-1640531535)) : Nat × Int32)).2 ∈ am_T0 := (am_inT (am_t4 179 rfl) rfl)
theorem am_okI8_4 : Cond.constant (am_cn 8) (((71, (-2048144789)) : Nat × Int32)).1 (((71, (-2048144789)) : Nat × Int32)).2 ∈ am_T0 := (am_inT (am_t4 180 rfl) rfl)
theorem am_okI8 : ∀ q ∈ am_ti_8, Cond.constant (am_cn 8) (q).1 (q).2 ∈ am_T0 := by
  unfold am_ti_8
  exact List.forall_mem_cons.mpr ⟨am_okI8_0, List.forall_mem_cons.mpr ⟨am_okI8_1, List.forall_mem_cons.mpr ⟨am_okI8_2, List.forall_mem_cons.mpr ⟨am_okI8_3, List.forall_mem_cons.mpr ⟨am_okI8_4, (fun _ h => nomatch h)⟩⟩⟩⟩⟩
theorem am_okI12_0 : Cond.constant (am_cn 12) (((84, (130000)) : Nat × Int32)).1 (((84, (130000)) : Nat × Int32)).2 ∈ am_T0 := (am_inT (am_t7 23 rfl) rfl)
theorem am_okI12_1 : Cond.constant (am_cn 12) (((91, (520000)) : Nat × Int32)).1 (((91, (520000)) : Nat × Int32)).2 ∈ am_T0 := (am_inT (am_t7 24 rfl) rfl)
theorem am_okI12_2 : Cond.constant (am_cn 12) (((98, (262144)) : Nat × Int32)).1 (((98, (262144)) : Nat × Int32)).2 ∈ am_T0 := (am_inT (am_t7 25 rfl) rfl)
theorem am_okI12_3 : Cond.constant (am_cn 12) (((153, (887880)) : Nat × Int32)).1 (((153, (887880)) : Nat × Int32)).2 ∈ am_T0 := (am_inT (am_t7 26 rfl) rfl)
theorem am_okI12_4 : Cond.constant (am_cn 12) (((164, (196196)) : Nat × Int32)).1 (((164, (196196)) : Nat × Int32)).2 ∈ am_T0 := (am_inT (am_t7 27 rfl) rfl)
theorem am_okI12_5 : Cond.constant (am_cn 12) (((427, (1000003)) : Nat × Int32)).1 (((427, (1000003)) : Nat × Int32)).2 ∈ am_T0 := (am_inT (am_t9 80 rfl) rfl)
theorem am_okI12_6 : Cond.constant (am_cn 12) (((428, (262143)) : Nat × Int32)).1 (((428, (262143)) : Nat × Int32)).2 ∈ am_T0 := (am_inT (am_t9 81 rfl) rfl)
theorem am_okI12_7 : Cond.constant (am_cn 12) (((479, (300000)) : Nat × Int32)).1 (((479, (300000)) : Nat × Int32)).2 ∈ am_T0 := (am_inT (am_t9 151 rfl) rfl)
theorem am_okI12_8 : Cond.constant (am_cn 12) (((480, (300001)) : Nat × Int32)).1 (((480, (300001)) : Nat × Int32)).2 ∈ am_T0 := (am_inT (am_t9 152 rfl) rfl)
theorem am_okI12_9 : Cond.constant (am_cn 12) (((557, (49049)) : Nat × Int32)).1 (((557, (49049)) : Nat × Int32)).2 ∈ am_T0 := (am_inT (am_t9 138 rfl) rfl)
theorem am_okI12_10 : Cond.constant (am_cn 12) (((630, (882000)) : Nat × Int32)).1 (((630, (882000)) : Nat × Int32)).2 ∈ am_T0 := (am_inT (am_t10 30 rfl) rfl)
theorem am_okI12 : ∀ q ∈ am_ti_12, Cond.constant (am_cn 12) (q).1 (q).2 ∈ am_T0 := by
  unfold am_ti_12
  exact List.forall_mem_cons.mpr ⟨am_okI12_0, List.forall_mem_cons.mpr ⟨am_okI12_1, List.forall_mem_cons.mpr ⟨am_okI12_2, List.forall_mem_cons.mpr ⟨am_okI12_3, List.forall_mem_cons.mpr ⟨am_okI12_4, List.forall_mem_cons.mpr ⟨am_okI12_5, List.forall_mem_cons.mpr ⟨am_okI12_6, List.forall_mem_cons.mpr ⟨am_okI12_7, List.forall_mem_cons.mpr ⟨am_okI12_8, List.forall_mem_cons.mpr ⟨am_okI12_9, List.forall_mem_cons.mpr ⟨am_okI12_10, (fun _ h => nomatch h)⟩⟩⟩⟩⟩⟩⟩⟩⟩⟩⟩
theorem am_okI : ∀ e ∈ am_ti, ∀ q ∈ e.2, Cond.constant (am_cn e.1) (q).1 (q).2 ∈ am_T0 := by
  unfold am_ti
  exact List.forall_mem_cons.mpr ⟨am_okI1, List.forall_mem_cons.mpr ⟨am_okI7, List.forall_mem_cons.mpr ⟨am_okI8, List.forall_mem_cons.mpr ⟨am_okI12, (fun _ h => nomatch h)⟩⟩⟩⟩
theorem am_okL0_0 : Cond.constantLong (am_cn 0) (((172, (3458764513820540928)) : Nat × Int64)).1 (((172, (3458764513820540928)) : Nat × Int64)).2 ∈ am_T0 := (am_inT (am_t4 132 rfl) rfl)
theorem am_okL0 : ∀ q ∈ am_tl_0, Cond.constantLong (am_cn 0) (q).1 (q).2 ∈ am_T0 := by
  unfold am_tl_0
  exact List.forall_mem_cons.mpr ⟨am_okL0_0, (fun _ h => nomatch h)⟩
theorem am_okL2_0 : Cond.constantLong (am_cn 2) (((165, (300000)) : Nat × Int64)).1 (((165, (300000)) : Nat × Int64)).2 ∈ am_T0 := (am_inT (am_t5 103 rfl) rfl)
theorem am_okL2 : ∀ q ∈ am_tl_2, Cond.constantLong (am_cn 2) (q).1 (q).2 ∈ am_T0 := by
  unfold am_tl_2
  exact List.forall_mem_cons.mpr ⟨am_okL2_0, (fun _ h => nomatch h)⟩
theorem am_okL6_0 : Cond.constantLong (am_cn 6) (((83, (40)) : Nat × Int64)).1 (((83, (40)) : Nat × Int64)).2 ∈ am_T0 := (am_inT (am_t6 177 rfl) rfl)
theorem am_okL6 : ∀ q ∈ am_tl_6, Cond.constantLong (am_cn 6) (q).1 (q).2 ∈ am_T0 := by
  unfold am_tl_6
  exact List.forall_mem_cons.mpr ⟨am_okL6_0, (fun _ h => nomatch h)⟩
theorem am_okL11_0 : Cond.constantLong (am_cn 11) (((322, (30000000)) : Nat × Int64)).1 (((322, (30000000)) : Nat × Int64)).2 ∈ am_T0 := (am_inT (am_t6 116 rfl) rfl)
theorem am_okL11 : ∀ q ∈ am_tl_11, Cond.constantLong (am_cn 11) (q).1 (q).2 ∈ am_T0 := by
  unfold am_tl_11
  exact List.forall_mem_cons.mpr ⟨am_okL11_0, (fun _ h => nomatch h)⟩
theorem am_okL12_0 : Cond.constantLong (am_cn 12) (((201, (32)) : Nat × Int64)).1 (((201, (32)) : Nat × Int64)).2 ∈ am_T0 := (am_inT (am_t8 79 rfl) rfl)
theorem am_okL12_1 : Cond.constantLong (am_cn 12) (((203, (126)) : Nat × Int64)).1 (((203, (126)) : Nat × Int64)).2 ∈ am_T0 := (am_inT (am_t8 80 rfl) rfl)
theorem am_okL12_2 : Cond.constantLong (am_cn 12) (((219, (97)) : Nat × Int64)).1 (((219, (97)) : Nat × Int64)).2 ∈ am_T0 := (am_inT (am_t8 138 rfl) rfl)
theorem am_okL12_3 : Cond.constantLong (am_cn 12) (((221, (122)) : Nat × Int64)).1 (((221, (122)) : Nat × Int64)).2 ∈ am_T0 := (am_inT (am_t8 139 rfl) rfl)
theorem am_okL12_4 : Cond.constantLong (am_cn 12) (((223, (48)) : Nat × Int64)).1 (((223, (48)) : Nat × Int64)).2 ∈ am_T0 := (am_inT (am_t8 140 rfl) rfl)
theorem am_okL12_5 : Cond.constantLong (am_cn 12) (((225, (57)) : Nat × Int64)).1 (((225, (57)) : Nat × Int64)).2 ∈ am_T0 := (am_inT (am_t8 141 rfl) rfl)
theorem am_okL12_6 : Cond.constantLong (am_cn 12) (((256, (31)) : Nat × Int64)).1 (((256, (31)) : Nat × Int64)).2 ∈ am_T0 := (am_inT (am_t8 113 rfl) rfl)
theorem am_okL12_7 : Cond.constantLong (am_cn 12) (((339, (20974)) : Nat × Int64)).1 (((339, (20974)) : Nat × Int64)).2 ∈ am_T0 := (am_inT (am_t8 108 rfl) rfl)
theorem am_okL12_8 : Cond.constantLong (am_cn 12) (((345, (690895867172)) : Nat × Int64)).1 (((345, (690895867172)) : Nat × Int64)).2 ∈ am_T0 := (am_inT (am_t8 114 rfl) rfl)
theorem am_okL12_9 : Cond.constantLong (am_cn 12) (((347, (176626)) : Nat × Int64)).1 (((347, (176626)) : Nat × Int64)).2 ∈ am_T0 := (am_inT (am_t8 115 rfl) rfl)
theorem am_okL12_10 : Cond.constantLong (am_cn 12) (((349, (665033)) : Nat × Int64)).1 (((349, (665033)) : Nat × Int64)).2 ∈ am_T0 := (am_inT (am_t8 116 rfl) rfl)
theorem am_okL12_11 : Cond.constantLong (am_cn 12) (((351, (185940)) : Nat × Int64)).1 (((351, (185940)) : Nat × Int64)).2 ∈ am_T0 := (am_inT (am_t8 117 rfl) rfl)
theorem am_okL12_12 : Cond.constantLong (am_cn 12) (((353, (628196)) : Nat × Int64)).1 (((353, (628196)) : Nat × Int64)).2 ∈ am_T0 := (am_inT (am_t8 118 rfl) rfl)
theorem am_okL12_13 : Cond.constantLong (am_cn 12) (((355, (12623020)) : Nat × Int64)).1 (((355, (12623020)) : Nat × Int64)).2 ∈ am_T0 := (am_inT (am_t8 119 rfl) rfl)
theorem am_okL12_14 : Cond.constantLong (am_cn 12) (((357, (680110)) : Nat × Int64)).1 (((357, (680110)) : Nat × Int64)).2 ∈ am_T0 := (am_inT (am_t8 120 rfl) rfl)
theorem am_okL12_15 : Cond.constantLong (am_cn 12) (((359, (394727)) : Nat × Int64)).1 (((359, (394727)) : Nat × Int64)).2 ∈ am_T0 := (am_inT (am_t8 121 rfl) rfl)
theorem am_okL12_16 : Cond.constantLong (am_cn 12) (((361, (413870246068)) : Nat × Int64)).1 (((361, (413870246068)) : Nat × Int64)).2 ∈ am_T0 := (am_inT (am_t8 122 rfl) rfl)
theorem am_okL12_17 : Cond.constantLong (am_cn 12) (((628, (5)) : Nat × Int64)).1 (((628, (5)) : Nat × Int64)).2 ∈ am_T0 := (am_inT (am_t10 29 rfl) rfl)
theorem am_okL12_18 : Cond.constantLong (am_cn 12) (((637, (40)) : Nat × Int64)).1 (((637, (40)) : Nat × Int64)).2 ∈ am_T0 := (am_inT (am_t10 51 rfl) rfl)
theorem am_okL12_19 : Cond.constantLong (am_cn 12) (((639, (30000000)) : Nat × Int64)).1 (((639, (30000000)) : Nat × Int64)).2 ∈ am_T0 := (am_inT (am_t10 52 rfl) rfl)
theorem am_okL12_20 : Cond.constantLong (am_cn 12) (((678, (2)) : Nat × Int64)).1 (((678, (2)) : Nat × Int64)).2 ∈ am_T0 := (am_inT (am_t10 85 rfl) rfl)
theorem am_okL12 : ∀ q ∈ am_tl_12, Cond.constantLong (am_cn 12) (q).1 (q).2 ∈ am_T0 := by
  unfold am_tl_12
  exact List.forall_mem_cons.mpr ⟨am_okL12_0, List.forall_mem_cons.mpr ⟨am_okL12_1, List.forall_mem_cons.mpr ⟨am_okL12_2, List.forall_mem_cons.mpr ⟨am_okL12_3, List.forall_mem_cons.mpr ⟨am_okL12_4, List.forall_mem_cons.mpr ⟨am_okL12_5, List.forall_mem_cons.mpr ⟨am_okL12_6, List.forall_mem_cons.mpr ⟨am_okL12_7, List.forall_mem_cons.mpr ⟨am_okL12_8, List.forall_mem_cons.mpr ⟨am_okL12_9, List.forall_mem_cons.mpr ⟨am_okL12_10, List.forall_mem_cons.mpr ⟨am_okL12_11, List.forall_mem_cons.mpr ⟨am_okL12_12, List.forall_mem_cons.mpr ⟨am_okL12_13, List.forall_mem_cons.mpr ⟨am_okL12_14, List.forall_mem_cons.mpr ⟨am_okL12_15, List.forall_mem_cons.mpr ⟨am_okL12_16, List.forall_mem_cons.mpr ⟨am_okL12_17, List.forall_mem_cons.mpr ⟨am_okL12_18, List.forall_mem_cons.mpr ⟨am_okL12_19, List.forall_mem_cons.mpr ⟨am_okL12_20, (fun _ h => nomatch h)⟩⟩⟩⟩⟩⟩⟩⟩⟩⟩⟩⟩⟩⟩⟩⟩⟩⟩⟩⟩⟩
theorem am_okL18_0 : Cond.constantLong (am_cn 18) (((314, (6148914691236517205)) : Nat × Int64)).1 (((314, (6148914691236517205)) : Nat × Int64)).2 ∈ am_T0 := (am_inT (am_t4 136 rfl) rfl)
theorem am_okL18_1 : Cond.constantLong (am_cn 18) (((316, (3689348814741910323)) : Nat × Int64)).1 (((316, (3689348814741910323)) : Nat × Int64)).2 ∈ am_T0 := (am_inT (am_t4 137 rfl) rfl)
theorem am_okL18_2 : Cond.constantLong (am_cn 18) (((318, (1085102592571150095)) : Nat × Int64)).1 (((318, (1085102592571150095)) : Nat × Int64)).2 ∈ am_T0 := (am_inT (am_t4 138 rfl) rfl)
theorem am_okL18 : ∀ q ∈ am_tl_18, Cond.constantLong (am_cn 18) (q).1 (q).2 ∈ am_T0 := by
  unfold am_tl_18
  exact List.forall_mem_cons.mpr ⟨am_okL18_0, List.forall_mem_cons.mpr ⟨am_okL18_1, List.forall_mem_cons.mpr ⟨am_okL18_2, (fun _ h => nomatch h)⟩⟩⟩
theorem am_okL : ∀ e ∈ am_tl, ∀ q ∈ e.2, Cond.constantLong (am_cn e.1) (q).1 (q).2 ∈ am_T0 := by
  unfold am_tl
  exact List.forall_mem_cons.mpr ⟨am_okL0, List.forall_mem_cons.mpr ⟨am_okL2, List.forall_mem_cons.mpr ⟨am_okL6, List.forall_mem_cons.mpr ⟨am_okL11, List.forall_mem_cons.mpr ⟨am_okL12, List.forall_mem_cons.mpr ⟨am_okL18, (fun _ h => nomatch h)⟩⟩⟩⟩⟩⟩
theorem am_obj : Cond.instanceMethod Lib.objectInit ∈ am_T0 ∧ Cond.code Lib.objectInit ⟨#[0xb1]⟩ 1 none ∈ am_T0 := ⟨(am_inT (am_t1 35 rfl) rfl), (am_inT (am_t1 36 rfl) rfl)⟩
theorem am_okB0_0 : Cond.methodLink (am_cn 0) (((3, ()) : Nat × Unit)).1 Lib.objectInit ∈ am_T0 := (am_inT (am_t2 36 rfl) rfl)
theorem am_okB0 : ∀ q ∈ am_to_0, Cond.methodLink (am_cn 0) (q).1 Lib.objectInit ∈ am_T0 := by
  unfold am_to_0
  exact List.forall_mem_cons.mpr ⟨am_okB0_0, (fun _ h => nomatch h)⟩
theorem am_okB1_0 : Cond.methodLink (am_cn 1) (((3, ()) : Nat × Unit)).1 Lib.objectInit ∈ am_T0 := (am_inT (am_t2 73 rfl) rfl)
theorem am_okB1 : ∀ q ∈ am_to_1, Cond.methodLink (am_cn 1) (q).1 Lib.objectInit ∈ am_T0 := by
  unfold am_to_1
  exact List.forall_mem_cons.mpr ⟨am_okB1_0, (fun _ h => nomatch h)⟩
theorem am_okB2_0 : Cond.methodLink (am_cn 2) (((3, ()) : Nat × Unit)).1 Lib.objectInit ∈ am_T0 := (am_inT (am_t2 67 rfl) rfl)
theorem am_okB2 : ∀ q ∈ am_to_2, Cond.methodLink (am_cn 2) (q).1 Lib.objectInit ∈ am_T0 := by
  unfold am_to_2
  exact List.forall_mem_cons.mpr ⟨am_okB2_0, (fun _ h => nomatch h)⟩
theorem am_okB3_0 : Cond.methodLink (am_cn 3) (((3, ()) : Nat × Unit)).1 Lib.objectInit ∈ am_T0 := (am_inT (am_t1 78 rfl) rfl)
theorem am_okB3 : ∀ q ∈ am_to_3, Cond.methodLink (am_cn 3) (q).1 Lib.objectInit ∈ am_T0 := by
  unfold am_to_3
  exact List.forall_mem_cons.mpr ⟨am_okB3_0, (fun _ h => nomatch h)⟩
theorem am_okB4_0 : Cond.methodLink (am_cn 4) (((3, ()) : Nat × Unit)).1 Lib.objectInit ∈ am_T0 := (am_inT (am_t2 11 rfl) rfl)
theorem am_okB4 : ∀ q ∈ am_to_4, Cond.methodLink (am_cn 4) (q).1 Lib.objectInit ∈ am_T0 := by
  unfold am_to_4
  exact List.forall_mem_cons.mpr ⟨am_okB4_0, (fun _ h => nomatch h)⟩
theorem am_okB5_0 : Cond.methodLink (am_cn 5) (((3, ()) : Nat × Unit)).1 Lib.objectInit ∈ am_T0 := (am_inT (am_t1 72 rfl) rfl)
theorem am_okB5 : ∀ q ∈ am_to_5, Cond.methodLink (am_cn 5) (q).1 Lib.objectInit ∈ am_T0 := by
  unfold am_to_5
  exact List.forall_mem_cons.mpr ⟨am_okB5_0, (fun _ h => nomatch h)⟩
theorem am_okB6_0 : Cond.methodLink (am_cn 6) (((3, ()) : Nat × Unit)).1 Lib.objectInit ∈ am_T0 := (am_inT (am_t3 23 rfl) rfl)
theorem am_okB6 : ∀ q ∈ am_to_6, Cond.methodLink (am_cn 6) (q).1 Lib.objectInit ∈ am_T0 := by
  unfold am_to_6
  exact List.forall_mem_cons.mpr ⟨am_okB6_0, (fun _ h => nomatch h)⟩
theorem am_okB7_0 : Cond.methodLink (am_cn 7) (((5, ()) : Nat × Unit)).1 Lib.objectInit ∈ am_T0 := (am_inT (am_t3 29 rfl) rfl)
theorem am_okB7 : ∀ q ∈ am_to_7, Cond.methodLink (am_cn 7) (q).1 Lib.objectInit ∈ am_T0 := by
  unfold am_to_7
  exact List.forall_mem_cons.mpr ⟨am_okB7_0, (fun _ h => nomatch h)⟩
theorem am_okB8_0 : Cond.methodLink (am_cn 8) (((3, ()) : Nat × Unit)).1 Lib.objectInit ∈ am_T0 := (am_inT (am_t2 118 rfl) rfl)
theorem am_okB8 : ∀ q ∈ am_to_8, Cond.methodLink (am_cn 8) (q).1 Lib.objectInit ∈ am_T0 := by
  unfold am_to_8
  exact List.forall_mem_cons.mpr ⟨am_okB8_0, (fun _ h => nomatch h)⟩
theorem am_okB9_0 : Cond.methodLink (am_cn 9) (((3, ()) : Nat × Unit)).1 Lib.objectInit ∈ am_T0 := (am_inT (am_t1 42 rfl) rfl)
theorem am_okB9 : ∀ q ∈ am_to_9, Cond.methodLink (am_cn 9) (q).1 Lib.objectInit ∈ am_T0 := by
  unfold am_to_9
  exact List.forall_mem_cons.mpr ⟨am_okB9_0, (fun _ h => nomatch h)⟩
theorem am_okB10_0 : Cond.methodLink (am_cn 10) (((3, ()) : Nat × Unit)).1 Lib.objectInit ∈ am_T0 := (am_inT (am_t2 232 rfl) rfl)
theorem am_okB10 : ∀ q ∈ am_to_10, Cond.methodLink (am_cn 10) (q).1 Lib.objectInit ∈ am_T0 := by
  unfold am_to_10
  exact List.forall_mem_cons.mpr ⟨am_okB10_0, (fun _ h => nomatch h)⟩
theorem am_okB11_0 : Cond.methodLink (am_cn 11) (((1, ()) : Nat × Unit)).1 Lib.objectInit ∈ am_T0 := (am_inT (am_t1 34 rfl) rfl)
theorem am_okB11 : ∀ q ∈ am_to_11, Cond.methodLink (am_cn 11) (q).1 Lib.objectInit ∈ am_T0 := by
  unfold am_to_11
  exact List.forall_mem_cons.mpr ⟨am_okB11_0, (fun _ h => nomatch h)⟩
theorem am_okB12_0 : Cond.methodLink (am_cn 12) (((1, ()) : Nat × Unit)).1 Lib.objectInit ∈ am_T0 := (am_inT (am_t7 22 rfl) rfl)
theorem am_okB12 : ∀ q ∈ am_to_12, Cond.methodLink (am_cn 12) (q).1 Lib.objectInit ∈ am_T0 := by
  unfold am_to_12
  exact List.forall_mem_cons.mpr ⟨am_okB12_0, (fun _ h => nomatch h)⟩
theorem am_okB : ∀ e ∈ am_to, ∀ q ∈ e.2, Cond.methodLink (am_cn e.1) (q).1 Lib.objectInit ∈ am_T0 := by
  unfold am_to
  exact List.forall_mem_cons.mpr ⟨am_okB0, List.forall_mem_cons.mpr ⟨am_okB1, List.forall_mem_cons.mpr ⟨am_okB2, List.forall_mem_cons.mpr ⟨am_okB3, List.forall_mem_cons.mpr ⟨am_okB4, List.forall_mem_cons.mpr ⟨am_okB5, List.forall_mem_cons.mpr ⟨am_okB6, List.forall_mem_cons.mpr ⟨am_okB7, List.forall_mem_cons.mpr ⟨am_okB8, List.forall_mem_cons.mpr ⟨am_okB9, List.forall_mem_cons.mpr ⟨am_okB10, List.forall_mem_cons.mpr ⟨am_okB11, List.forall_mem_cons.mpr ⟨am_okB12, (fun _ h => nomatch h)⟩⟩⟩⟩⟩⟩⟩⟩⟩⟩⟩⟩⟩
theorem am_okA : ∀ t ty, am_aty t = some ty → Cond.arrayClass ty ∈ am_T0 := by
  intro t ty h
  unfold am_aty at h
  split at h <;> cases h
  · exact (am_inT (am_t1 66 rfl) rfl)
  · exact (am_inT (am_t1 150 rfl) rfl)
  · exact (am_inT (am_t2 61 rfl) rfl)
  · exact (am_inT (am_t1 65 rfl) rfl)
  · exact (am_inT (am_t2 60 rfl) rfl)
  · exact (am_inT (am_t3 51 rfl) rfl)
theorem am_ok1 : am_Ok GG am_cls am_cn am_T0 am_Tn := by
  refine ⟨fun oc ix ci f h => ?_, am_okC, fun oc ix ci h => ?_, fun oc ix v h => ?_, fun oc ix v h => ?_, am_okA, fun oc ix h => ?_⟩
  · exact am_lk2_mem (v := (ci, f)) h (P := fun a b v => am_pF a b v.1 v.2) am_okF
  · exact am_lk2_mem h (P := fun a b v => ∃ C T N, am_cls[v]? = some (C, T, N) ∧ Cond.classLink (am_cn a) b C ∈ am_T0 ∧ Cond.instantiable C N ∈ am_T0 ∧ Cond.initialized C ∈ am_T0) am_okN
  · exact am_lk2_mem h (P := fun a b v => Cond.constant (am_cn a) b v ∈ am_T0) am_okI
  · exact am_lk2_mem h (P := fun a b v => Cond.constantLong (am_cn a) b v ∈ am_T0) am_okL
  · have h2 : am_fB oc ix = true := h
    unfold am_fB at h2
    split at h2
    · rename_i u hu
      exact ⟨am_lk2_mem hu (P := fun a b _ => Cond.methodLink (am_cn a) b Lib.objectInit ∈ am_T0) am_okB, am_obj.1, am_obj.2⟩
    · cases h2
