/-! ===== the class's expand: one joint move ===== -/
theorem ltT_tri {s t : List Int} (hs : ∀ x, x ∈ s → 0 < x) (ht : ∀ x, x ∈ t → 0 < x) (h : ¬ s = t) : ltT s t ∨ ltT t s := by
  have ex : ∃ k : Nat, ¬ s.getD k 0 = t.getD k 0 := Classical.byContradiction fun z => h (gD_ext hs ht (fun j => Classical.byContradiction fun y => z ⟨j, y⟩))
  have least : ∀ n : Nat, (∃ k : Nat, k < n ∧ ¬ s.getD k 0 = t.getD k 0) → ∃ k : Nat, (∀ j : Nat, j < k → s.getD j 0 = t.getD j 0) ∧ ¬ s.getD k 0 = t.getD k 0 := by
    intro n
    induction n with
    | zero =>
      rintro ⟨k, hk, _⟩
      exact absurd hk (Nat.not_lt_zero _)
    | succ n ih =>
      rintro ⟨k, hk, hd⟩
      by_cases y : ∃ k : Nat, k < n ∧ ¬ s.getD k 0 = t.getD k 0
      · exact ih y
      · exact ⟨k, fun j hj => Classical.byContradiction fun z => y ⟨j, by omega, z⟩, hd⟩
  obtain ⟨k0, hk0⟩ := ex
  obtain ⟨k, h1, h2⟩ := least (k0 + 1) ⟨k0, Nat.lt_succ_self _, hk0⟩
  by_cases y : s.getD k 0 < t.getD k 0
  · exact Or.inl ⟨k, h1, y⟩
  · exact Or.inr ⟨k, fun j hj => (h1 j hj).symm, by omega⟩
theorem GdC_pos {p : List Cd} (h : GdC p) : ∀ x, x ∈ tx p → 0 < x := fun x hx => by
  obtain ⟨⟨f, hf⟩, hg, hn⟩ := h
  have := (tx_sg f p hf hg hn).1 x hx
  omega
theorem GdC_inj {p p' : List Cd} (h : GdC p) (h' : GdC p') (e : tx p = tx p') : p = p' := by
  obtain ⟨⟨f, hf⟩, h2, h3⟩ := h
  obtain ⟨⟨f', hf'⟩, h2', h3'⟩ := h'
  exact (tx_pre (f + f') p p' [] [] (wfS_mono f _ _ (by omega) hf) h2 h3 (wfS_mono f' _ _ (by omega) hf') h2' h3' (fun s q z => nomatch z) (fun s q z => nomatch z) (by rw [e])).1
/-- terms can be brought into their order -/
theorem srt_ex : ∀ {M : List (List Cd)}, (∀ p, p ∈ M → GdC p) → ∃ A, SrT A ∧ ∀ t, t ∈ A ↔ t ∈ M := by
  intro M
  induction M with
  | nil => intro _; exact ⟨[], List.Pairwise.nil, fun _ => Iff.rfl⟩
  | cons p M ih =>
    intro h
    obtain ⟨A, hA, hm⟩ := ih (fun q hq => h q (List.mem_cons_of_mem _ hq))
    have hp := h p List.mem_cons_self
    by_cases y : p ∈ A
    · refine ⟨A, hA, fun t => ?_⟩
      rw [List.mem_cons, hm t]
      exact ⟨Or.inr, fun z => z.elim (fun e => by rw [e]; exact (hm p).mp y) id⟩
    · refine ⟨A.filter (fun a => @decide (ltT (tx a) (tx p)) (Classical.propDecidable _)) ++ p :: A.filter (fun a => @decide (ltT (tx p) (tx a)) (Classical.propDecidable _)), List.pairwise_append.mpr ⟨List.Pairwise.filter _ hA, List.pairwise_cons.mpr ⟨fun b hb => ?_, List.Pairwise.filter _ hA⟩, fun a ha b hb => ?_⟩, fun t => ?_⟩
      · exact @of_decide_eq_true _ (Classical.propDecidable _) (List.mem_filter.mp hb).2
      · have a1 : ltT (tx a) (tx p) := @of_decide_eq_true _ (Classical.propDecidable _) (List.mem_filter.mp ha).2
        rcases List.mem_cons.mp hb with e | hb
        · rw [e]; exact a1
        · exact ltT_tr a1 (@of_decide_eq_true _ (Classical.propDecidable _) (List.mem_filter.mp hb).2)
      · rw [List.mem_append, List.mem_cons, List.mem_cons, ← hm t, List.mem_filter, List.mem_filter]
        constructor
        · rintro (z | z | z)
          · exact Or.inr z.1
          · exact Or.inl z
          · exact Or.inr z.1
        · rintro (z | z)
          · exact Or.inr (Or.inl z)
          · have ht := h t (List.mem_cons_of_mem _ ((hm t).mp z))
            rcases ltT_tri (GdC_pos ht) (GdC_pos hp) (fun e => y (by rw [← GdC_inj ht hp e]; exact z)) with w | w
            · exact Or.inl ⟨z, @decide_eq_true _ (Classical.propDecidable _) w⟩
            · exact Or.inr (Or.inr ⟨z, @decide_eq_true _ (Classical.propDecidable _) w⟩)
theorem nl_ex {S : List Atm} {w : List Int} (h : ∀ a, a ∈ S → ∀ p, p ∈ a.2 → GdC p) : ∃ st, SrT st ∧ ∀ t, t ∈ st ↔ ((w, [t]) : Atm) ∈ S := by
  have hM : ∀ p, p ∈ (S.flatMap (fun a => a.2)).filter (fun t => @decide (((w, [t]) : Atm) ∈ S) (Classical.propDecidable _)) → GdC p := fun p hp => by
    obtain ⟨a, ha, hp⟩ := List.mem_flatMap.mp (List.mem_filter.mp hp).1
    exact h a ha p hp
  obtain ⟨A, hA, hm⟩ := srt_ex hM
  refine ⟨A, hA, fun t => ?_⟩
  rw [hm t, List.mem_filter, List.mem_flatMap]
  exact ⟨fun z => @of_decide_eq_true _ (Classical.propDecidable _) z.2, fun z => ⟨⟨_, z, List.mem_singleton.mpr rfl⟩, @decide_eq_true _ (Classical.propDecidable _) z⟩⟩
/-- what one joint move writes -/
abbrev WJt (q e n c : Nat) (j : Int) : Prop := c = 105 ∨ WRn q c j ∨ WEn e c j ∨ (c = 116 ∧ 40 * (n : Int) ≤ j ∧ j < 40 * (n : Int) + 40)
theorem wjt_1 {q e n c : Nat} {j : Int} (z : ¬ WJt q e n c j) : ¬ c = 105 ∧ ¬ WRn q c j ∧ ¬ WEn e c j ∧ ¬ (c = 116 ∧ 40 * (n : Int) ≤ j ∧ j < 40 * (n : Int) + 40) := ⟨fun y => z (Or.inl y), fun y => z (Or.inr (Or.inl y)), fun y => z (Or.inr (Or.inr (Or.inl y))), fun y => z (Or.inr (Or.inr (Or.inr y)))⟩
theorem wrn_q {q0 q N c : Nat} {j : Int} (hq : q = q0 ∨ (q0 = 85 ∧ N ≤ q)) (hc : c < N) (y : WRn q c j) : WRn q0 c j := by
  rcases hq with rfl | ⟨h1, h2⟩
  · exact y
  · rcases y with ((y | y | y | y | y) | y | y) | y | y <;> omega
theorem wen_e0 {e0 e N c : Nat} {j : Int} (he : e = e0 ∨ (e0 = 108 ∧ N ≤ e)) (hc : c < N) (y : WEn e c j) : WEn e0 c j := by
  rcases he with rfl | ⟨h1, h2⟩
  · exact y
  · rcases y with y | (y | y | y | y) | y | y | y <;> omega
theorem wcut_q {q0 q N c : Nat} {j : Int} (hq : q = q0 ∨ (q0 = 85 ∧ N ≤ q)) (hc : c < N) (y : c = q + 7 ∨ (c = 84 ∧ j = 9)) : WRn q0 c j := by
  rcases hq with rfl | ⟨h1, h2⟩
  · rcases y with y | y <;> omega
  · rcases y with y | y <;> omega
theorem wjt_2 {q q3 e n N c : Nat} {j : Int} (h : q3 = q ∨ (q = 85 ∧ N ≤ q3)) (hc : c < N) (z : ¬ WJt q e n c j) : ¬ (c = q3 + 7 ∨ (c = 84 ∧ j = 9)) := fun y => (wjt_1 z).2.1 (wcut_q h hc y)
theorem wjt_3 {n k c : Nat} {j : Int} (hk : k < 40) (z : ¬ (c = 116 ∧ 40 * (n : Int) ≤ j ∧ j < 40 * (n : Int) + 40)) : ¬ (c = 116 ∧ j = 40 * (n : Int) + (k : Int)) := by omega
theorem n105_s {s q c : Nat} {j : Int} (hs : s = 22 ∨ s = 42) (hq : q = 85 ∨ 185 ≤ q) (z : (s ≤ c ∧ c ≤ s + 19) ∨ c = 80 ∨ c = 81 ∨ (c = 70 ∧ (j = 4 ∨ j = 15 ∨ (12 ≤ j ∧ j ≤ 14))) ∨ c = 98 ∨ c = 103 ∨ (72 ≤ c ∧ c ≤ 78) ∨ (c = 71 ∧ j = 7) ∨ (q ≤ c ∧ c ≤ q + 7) ∨ c = 84) : ¬ c = 105 := by omega
theorem wrn_e {q e N c : Nat} {j : Int} (he : e = 108 ∨ 185 < e) (hn : ¬ (q ≤ e ∧ e ≤ q + 7)) (heN : e < N) (hq : q = 85 ∨ 185 ≤ q) (hN : 186 ≤ N) (z : (c = 107 ∧ j = 3) ∨ c = 109 ∨ c = 110 ∨ c = e) : c < N ∧ ¬ WRn q c j := by
  rcases z with z | z | z | z <;> exact ⟨by omega, by omega⟩
theorem n105_e {e c : Nat} {j : Int} (he : e = 108 ∨ 185 < e) (z : (c = 107 ∧ j = 3) ∨ c = 109 ∨ c = 110 ∨ c = e) : ¬ c = 105 := by omega
theorem wen_s {s q e N c : Nat} {j : Int} (hs : s = 22 ∨ s = 42) (hq : q = 85 ∨ 185 ≤ q) (he : e = 108 ∨ 185 < e) (hN : 186 ≤ N) (z : (s ≤ c ∧ c ≤ s + 19) ∨ c = 80 ∨ c = 81 ∨ (c = 70 ∧ (j = 4 ∨ j = 15 ∨ (12 ≤ j ∧ j ≤ 14))) ∨ c = 98 ∨ c = 103 ∨ (72 ≤ c ∧ c ≤ 78) ∨ (c = 71 ∧ j = 7)) : c < N ∧ ¬ WEn e c j ∧ ¬ c = 116 ∧ ¬ (c = q + 7 ∨ (c = 84 ∧ j = 9)) := by
  have w : c < 84 ∨ c = 98 ∨ c = 103 := by omega
  rcases w with w | w | w <;> exact ⟨by omega, by omega, by omega, by omega⟩
theorem wen_q {q e N c : Nat} {j : Int} (hq : q = 85 ∨ 185 < q) (he : e = 108 ∨ 185 < e) (hn : ¬ (q ≤ e ∧ e ≤ q + 7)) (hN : q + 8 ≤ N) (z : (q ≤ c ∧ c ≤ q + 7) ∨ (c = 84 ∧ j = 9)) : c < N ∧ ¬ WEn e c j ∧ ¬ c = 116 := by
  rcases z with z | z <;> exact ⟨by omega, by omega, by omega⟩
theorem wtc_e {q e c : Nat} {j : Int} (hq : q = 85 ∨ 185 ≤ q) (he : e = 108 ∨ 185 < e) (hn : ¬ (q ≤ e ∧ e ≤ q + 7)) (z : (c = 107 ∧ j = 3) ∨ c = 109 ∨ c = 110 ∨ c = e ∨ c = 113 ∨ c = 106 ∨ c = 116) : ¬ (c = q + 7 ∨ (c = 84 ∧ j = 9)) := by
  rcases z with z | z | z | z | z | z | z <;> omega
theorem w116_e {e c : Nat} {j : Int} (he : e = 108 ∨ 185 < e) (z : (c = 107 ∧ j = 3) ∨ c = 109 ∨ c = 110 ∨ c = e ∨ c = 113 ∨ c = 106) : ¬ c = 116 := by omega
theorem wrn_3 {q N c : Nat} {j : Int} (hq : q = 85 ∨ 185 ≤ q) (hN : 186 ≤ N) (z : c = 113 ∨ c = 116 ∨ (c = 109 ∧ j = 0)) : c < N ∧ ¬ WRn q c j ∧ ¬ c = 105 := by
  rcases z with z | z | z <;> exact ⟨by omega, by omega, by omega⟩
theorem wen_3 {e N c : Nat} {j : Int} (he : e = 108 ∨ 185 < e) (hN : 186 ≤ N) (z : c = 116) : c < N ∧ ¬ WEn e c j := ⟨by omega, by omega⟩
