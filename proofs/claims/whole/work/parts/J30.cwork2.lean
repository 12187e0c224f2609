/-! ===== the class at work: workOut ===== -/
section CWO
variable {d : Nat} {Q : Option Value ⊕ Nat → am_Mem → Prop} {X : Int → List Int → Prop} {W : Int → Nat} {s C0 : Nat} {rs : List Rul} {S S0 : List Atm} {lev : List Int → Nat} {μ : am_Mem} {m l : PM} {q T F G : Nat} {st L ch : List (List Cd)} {n r1 r3 L1 L3 : Nat}
/-- the frame of a call of workOut -/
abbrev wkF (r1 r3 : Nat) (a b : Nat) (x5 : Int) (o6 : Option Value) : List (Option Value) := [some (.ref 70), some (.ref r1), some (.int (zI (a : Int))), some (.ref r3), some (.int (zI (b : Int))), some (.int (zI x5)), o6]
theorem gv_o {c : Nat} {j : Int} (h : (22 ≤ c ∧ c ≤ 61) ∨ (80 ≤ c ∧ c ≤ 69999999 ∧ ¬ c = 79) ∨ c = 70) : ¬ WGv c j := by omega
theorem rw_79 {c : Nat} (h : 94 ≤ c) : ¬ c = 79 := by omega
theorem rw_gv {c : Nat} {j : Int} (h : 94 ≤ c) : ¬ WGv c j := by omega
/-- the moves are given -/
theorem wk_51 {m0 : PM} (hS : ShW s μ q) (hs : s = 22 ∨ s = 42) (k1 : am_kd μ r1 = (2, L1)) (k3 : am_kd μ r3 = (2, L3)) (b1 : L1 ≤ 1000) (b3 : L3 ≤ 1000) (hr1 : 94 ≤ r1) (hr3 : 94 ≤ r3) (hL : LvO lev rs) (hlv : lev (wdC.getD 4 []) = F + 1) (hlow : ∀ a, a ∈ S0 → lev a.1 < F + 1) (hx4 : X 4 (wdC.getD 4 [])) (hW4 : W 4 = 2) (hLn : L.Nodup) (hn : n ≤ L.length) (hL4 : L.length ≤ 4) (hn3 : n ≤ L3) (hLr : RwC X q m0 T 80 0 L) (hch : RwC X q m0 T r3 0 (ch.take n)) (hcn : n ≤ ch.length)
    (hok : ∀ m, GvI X W s rs lev F (baS st ++ baM L ch n) m0 m q T (S0 ++ (baS st ++ baM L ch n)) → Wp (d + 4) 45 (111, wkF r1 r3 st.length n (m s 18) none, [], sA μ m l) Q)
    (hthr : ∀ m S, (¬ ∃ S', EvG rs (baS st ++ baM L ch n) S') → GvI X W s rs lev F (baS st ++ baM L ch n) m0 m q T (S0 ++ S) → Q (.inr 3) (sA (am_nX μ) m l)) :
    ∀ (f i : Nat) (m : PM), i + f = n → GvI X W s rs lev F (baS st ++ baM L ch n) m0 m q T (S0 ++ (baS st ++ baM L ch i)) → Wp (d + 4) 45 (51, wkF r1 r3 st.length n (i : Int) none, [], sA μ m l) Q := by
  obtain ⟨s1, s2, s3, s4, s5, s6⟩ := id hS
  intro f
  induction f with
  | zero =>
    intro i m hi h
    have ei : i = n := by omega
    refine K45_51 s1 s2 (TQ_q s3) hs s5 k1 k3 b1 b3 ⟨⟨by omega, by omega⟩, ⟨by omega, by omega⟩, fun _ => ?_, fun z => absurd (by omega) z⟩
    rw [ei] at h
    exact hok m h
  | succ f ih =>
    intro i m hi h
    have hil : i < L.length := by omega
    obtain ⟨u, u1, u2, u3⟩ := hLr i hil
    have hic : i < (ch.take n).length := by rw [List.length_take]; omega
    obtain ⟨v, v1, v2, v3⟩ := hch i hic
    have hgd : (ch.take n).getD i [] = ch.getD i [] := by rw [List.getD_eq_getElem?_getD, List.getElem?_take_of_lt (by omega), ← List.getD_eq_getElem?_getD]
    rw [hgd] at v3
    rw [show (0 : Int) + (i : Int) = (i : Int) by omega] at u1 v1
    refine K45_51 s1 s2 (TQ_q s3) hs s5 k1 k3 b1 b3 ⟨⟨by omega, by omega⟩, ⟨by omega, by omega⟩, fun z => absurd z (by omega), fun _ => ⟨⟨by omega, by omega⟩, ⟨by omega, by omega⟩, fun m1 e1 => ?_⟩⟩
    have f1 : ∀ c j, ¬ c = 79 → m1 c j = m c j := fun c j z => by rw [e1, up_c z, up_c z]
    obtain ⟨hW1, cg1⟩ := gv_79 f1 hS hs h.1
    have hno : ¬ ((wdC.getD 4 [], [L.getD i [], ch.getD i []]) : Atm) ∈ S0 ++ (baS st ++ baM L ch i) := fun z => by
      rcases List.mem_append.mp z with z | z
      · have := hlow _ z
        have e : lev (wdC.getD 4 []) < F + 1 := this
        omega
      · exact baM_no hLn hil z
    have hin : ((wdC.getD 4 [], [L.getD i [], ch.getD i []]) : Atm) ∈ baS st ++ baM L ch n := List.mem_append_right _ (List.mem_map.mpr ⟨i, List.mem_range.mpr (by omega), rfl⟩)
    have e80 : m 80 (i : Int) = (u : Int) := (h.2.2.2 _ _ (by omega)).trans u1
    have er3 : m r3 (i : Int) = (v : Int) := (h.2.2.2 _ _ (by omega)).trans v1
    refine ⟨fun μ' => Wp (d + 4) 45 (96, wkF r1 r3 st.length n (i : Int) none, [], μ') Q, fun x μ' => Q (.inr x) μ', ?_, fun _ z => z, fun _ _ z => z⟩
    refine k_give (d := d + 2) (c := 2) hS hs hW1 hx4 rfl (by decide) hW4 (fun j hj => ?_) hno (fun h1000 => ?_) (fun _ m2 hW2 cg2 f2 => ?_)
    · have hj2 : j = 0 ∨ j = 1 := by
        have : j < 2 := hj
        omega
      rcases hj2 with e | e
      · rw [e]
        refine ⟨u, ?_, u2, cg1 _ _ u2 (h.2.2.1 _ _ u2 u3)⟩
        rw [e1, up_i (by decide)]
        show up m 79 0 (m 80 (i : Int)) 79 0 = _
        rw [up_s, e80]
      · rw [e]
        refine ⟨v, ?_, v2, cg1 _ _ v2 (h.2.2.1 _ _ v2 v3)⟩
        rw [e1]
        show up _ 79 1 _ 79 1 = _
        rw [up_s, up_c (rw_79 hr3), er3]
    · refine hthr m1 (baS st ++ baM L ch i) ?_ ⟨hW1, h.2.1, fun t cs ht z => cg1 t cs ht (h.2.2.1 t cs ht z), fun c j z => (f1 c j (by omega)).trans (h.2.2.2 c j z)⟩
      exact Prt_many hL h.2.1 (Nat.le_of_eq hlv.symm) hno (Or.inl hin) (by omega)
    · have hI := gv_step (F := F) hL h f1 cg1 hW2 cg2 f2 hin hlv hno
      show Wp (d + 4) 45 (96, _, [], _) Q
      refine K45_96 s1 s2 (TQ_q s3) hs s5 k1 k3 b1 b3 ?_
      have z := ih (i + 1) m2 (by omega) (by
        rw [baM_s, ← List.append_assoc (baS st), ← List.append_assoc S0]
        exact hI)
      rw [show ((i + 1 : Nat) : Int) = (i : Int) + 1 by omega] at z
      exact z
/-- the state is given -/
theorem wk_14 {m0 : PM} (hS : ShW s μ q) (hs : s = 22 ∨ s = 42) (k1 : am_kd μ r1 = (2, L1)) (k3 : am_kd μ r3 = (2, L3)) (b1 : L1 ≤ 1000) (b3 : L3 ≤ 1000) (hr1 : 94 ≤ r1) (hL : LvO lev rs) (hlv : lev (wdC.getD 2 []) = F + 1) (hlow : ∀ a, a ∈ S0 → lev a.1 < F + 1) (hx2 : X 2 (wdC.getD 2 [])) (hW2 : W 2 = 1) (hst : st.Nodup) (h60 : st.length ≤ 60) (hn1 : st.length ≤ L1) (hrow : RwC X q m0 T r1 0 st)
    (hok : ∀ m, GvI X W s rs lev F (baS st ++ baM L ch n) m0 m q T (S0 ++ (baS st ++ baM L ch 0)) → Wp (d + 4) 45 (51, wkF r1 r3 st.length n 0 none, [], sA μ m l) Q)
    (hthr : ∀ m S, (¬ ∃ S', EvG rs (baS st ++ baM L ch n) S') → GvI X W s rs lev F (baS st ++ baM L ch n) m0 m q T (S0 ++ S) → Q (.inr 3) (sA (am_nX μ) m l)) :
    ∀ (f i : Nat) (m : PM), i + f = st.length → GvI X W s rs lev F (baS st ++ baM L ch n) m0 m q T (S0 ++ baS (st.take i)) → Wp (d + 4) 45 (14, wkF r1 r3 st.length n (i : Int) none, [], sA μ m l) Q := by
  obtain ⟨s1, s2, s3, s4, s5, s6⟩ := id hS
  intro f
  induction f with
  | zero =>
    intro i m hi h
    have ei : i = st.length := by omega
    refine K45_14 s1 s2 (TQ_q s3) hs s5 k1 k3 b1 b3 ⟨⟨by omega, by omega⟩, ⟨by omega, by omega⟩, fun _ => ?_, fun z => absurd (by omega) z⟩
    rw [ei, List.take_length] at h
    refine hok m ?_
    rw [show baM L ch 0 = [] from rfl, List.append_nil]
    exact h
  | succ f ih =>
    intro i m hi h
    have hil : i < st.length := by omega
    obtain ⟨u, u1, u2, u3⟩ := hrow i hil
    rw [show (0 : Int) + (i : Int) = (i : Int) by omega] at u1
    refine K45_14 s1 s2 (TQ_q s3) hs s5 k1 k3 b1 b3 ⟨⟨by omega, by omega⟩, ⟨by omega, by omega⟩, fun z => absurd z (by omega), fun _ => ⟨⟨by omega, by omega⟩, fun m1 e1 => ?_⟩⟩
    have f1 : ∀ c j, ¬ c = 79 → m1 c j = m c j := fun c j z => by rw [e1, up_c z]
    obtain ⟨hW1, cg1⟩ := gv_79 f1 hS hs h.1
    have hno : ¬ ((wdC.getD 2 [], [st.getD i []]) : Atm) ∈ S0 ++ baS (st.take i) := fun z => by
      rcases List.mem_append.mp z with z | z
      · have := hlow _ z
        have e : lev (wdC.getD 2 []) < F + 1 := this
        omega
      · exact baS_no hst hil z
    have hin : ((wdC.getD 2 [], [st.getD i []]) : Atm) ∈ baS st ++ baM L ch n := List.mem_append_left _ (List.mem_map.mpr ⟨st.getD i [], gD_in hil, rfl⟩)
    have er1 : m r1 (i : Int) = (u : Int) := (h.2.2.2 _ _ (by omega)).trans u1
    refine ⟨fun μ' => Wp (d + 4) 45 (42, wkF r1 r3 st.length n (i : Int) none, [], μ') Q, fun x μ' => Q (.inr x) μ', ?_, fun _ z => z, fun _ _ z => z⟩
    refine k_give (d := d + 2) (c := 1) hS hs hW1 hx2 rfl (by decide) hW2 (fun j hj => ?_) hno (fun h1000 => ?_) (fun _ m2 hW2' cg2 f2 => ?_)
    · have e : j = 0 := by
        have : j < 1 := hj
        omega
      rw [e]
      refine ⟨u, ?_, u2, cg1 _ _ u2 (h.2.2.1 _ _ u2 u3)⟩
      rw [e1]
      show up m 79 0 _ 79 0 = _
      rw [up_s, er1]
    · refine hthr m1 (baS (st.take i)) ?_ ⟨hW1, h.2.1, fun t cs ht z => cg1 t cs ht (h.2.2.1 t cs ht z), fun c j z => (f1 c j (by omega)).trans (h.2.2.2 c j z)⟩
      exact Prt_many hL h.2.1 (Nat.le_of_eq hlv.symm) hno (Or.inl hin) (by omega)
    · have hI := gv_step (F := F) hL h f1 cg1 hW2' cg2 f2 hin hlv hno
      show Wp (d + 4) 45 (42, _, [], _) Q
      refine K45_42 s1 s2 (TQ_q s3) hs s5 k1 k3 b1 b3 ?_
      have z := ih (i + 1) m2 (by omega) (by
        rw [baS_t hil, ← List.append_assoc S0]
        exact hI)
      rw [show ((i + 1 : Nat) : Int) = (i : Int) + 1 by omega] at z
      exact z
end CWO
