/-! ===== the reference writes a term's text: its turns ===== -/
/-- the row at hand holds these signs -/
def RwL (m : PM) (L : List Int) : Prop := m 125 80 = (L.length : Int) ∧ ∀ i : Nat, i < L.length → m 176 (i : Int) = L.getD i 0
theorem RwL_cg {m m' : PM} {L : List Int} (e : m' 125 80 = m 125 80) (k : ∀ i, m' 176 i = m 176 i) (h : RwL m L) : RwL m' L := ⟨e.trans h.1, fun i hi => (k i).trans (h.2 i hi)⟩
theorem RwL_snoc {m : PM} {L : List Int} {v : Int} (h : RwL m L) : RwL (up (up m 176 (m 125 80) v) 125 80 (m 125 80 + 1)) (L ++ [v]) := by
  refine ⟨by rw [up_s, h.1, List.length_append, List.length_singleton]; omega, fun i hi => ?_⟩
  rw [up_c (by decide), h.1]
  rw [List.length_append, List.length_singleton] at hi
  by_cases y : i = L.length
  · rw [y, up_s, getD_r]
  · rw [up_i (by omega), getD_l _ _ _ (by omega)]
    exact h.2 i (by omega)
abbrev WWr (c : Nat) (j : Int) : Prop := c = 166 ∨ c = 176 ∨ (c = 125 ∧ j = 80)
section RWR
variable {d : Nat} {μ : am_Mem} {l : PM} {Q : Option Value ⊕ Nat → am_Mem → Prop} {x1 : Int}
/-- a sign lies on the pile -/
theorem wr_sign {m : PM} {L : List Int} {h : Nat} {v : Int} (H : RS μ) (hh : (h : Int) < 1099) (hL : L.length < 3000) (hr : RwL m L) (hv : 0 < v ∧ v < 128) (e : m 166 (h : Int) = -v) (hq : ∀ (m' : PM) (o3 o4 : Option Value), RwL m' (L ++ [v]) → (∀ c j, ¬ ((c = 176 ∧ (L.length : Int) ≤ j) ∨ (c = 125 ∧ j = 80)) → m' c j = m c j) → Wp d 208 (14, [some (.ref 125), some (.int (zI x1)), some (.int (zI (h : Int))), o3, o4], [], sA μ m' l) Q) (o3 o4 : Option Value) : Wp d 208 (14, [some (.ref 125), some (.int (zI x1)), some (.int (zI ((h : Int) + 1))), o3, o4], [], sA μ m l) Q := by
  have e0 : (h : Int) + 1 - 1 = (h : Int) := by omega
  refine R208_14 H ⟨⟨by omega, by omega⟩, fun y => by omega, fun _ => ?_⟩
  rw [e0, e]
  refine ⟨⟨by omega, by omega⟩, ⟨by omega, by omega⟩, fun y => by omega, fun _ => ⟨by rw [hr.1]; exact ⟨by omega, by omega⟩, ?_⟩⟩
  rintro m4 e4
  rw [show - -v = v by omega] at e4
  refine hq m4 _ _ (by rw [e4]; exact RwL_snoc hr) (fun c j y => ?_)
  rw [e4, hr.1, up_o (by omega), up_o (by omega)]
/-- a name is written -/
theorem wr_161 {m0 : PM} {w L0 : List Int} {h : Int} {t : Nat} (H : RS μ) (ht : t < 130000) (hx : nX m0 (m0 149 t) w) (h9 : m0 125 9 ≤ 1010) (hw : m0 130 (m0 149 t) = (w.length : Int)) (hwl : w.length ≤ 16) (hws : ∀ i : Nat, i < w.length → m0 129 (16 * m0 149 t + i) = w.getD i 0) (hL : L0.length + w.length ≤ 3000) (hq : ∀ (m' : PM) (o4 : Option Value), RwL m' (L0 ++ w) → (∀ c j, ¬ ((c = 176 ∧ (L0.length : Int) ≤ j) ∨ (c = 125 ∧ j = 80)) → m' c j = m0 c j) → Wp d 208 (14, [some (.ref 125), some (.int (zI x1)), some (.int (zI h)), some (.int (zI (t : Int))), o4], [], sA μ m' l) Q) : ∀ (f i : Nat) (m : PM), i + f = w.length → RwL m (L0 ++ w.take i) → (∀ c j, ¬ ((c = 176 ∧ (L0.length : Int) ≤ j) ∨ (c = 125 ∧ j = 80)) → m c j = m0 c j) → Wp d 208 (161, [some (.ref 125), some (.int (zI x1)), some (.int (zI h)), some (.int (zI (t : Int))), some (.int (zI (i : Int)))], [], sA μ m l) Q := by
  have hx2 := hx.2.1
  have hx1 := hx.1
  intro f
  induction f with
  | zero =>
    intro i m hi g1 g2
    have e149 : m 149 (t : Int) = m0 149 t := g2 _ _ (by omega)
    have e130 : m 130 (m0 149 t) = (w.length : Int) := by rw [g2 _ _ (by omega)]; exact hw
    refine R208_161 H ⟨⟨by omega, by omega⟩, by rw [e149]; exact ⟨by omega, by omega⟩, ⟨by omega, by omega⟩, by rw [e149, e130]; exact ⟨by omega, by omega⟩, fun _ => ?_, fun y => ?_⟩
    · rw [List.take_of_length_le (by omega)] at g1
      exact hq m _ g1 g2
    · rw [e149, e130] at y
      omega
  | succ f ih =>
    intro i m hi g1 g2
    have e149 : m 149 (t : Int) = m0 149 t := g2 _ _ (by omega)
    have e130 : m 130 (m0 149 t) = (w.length : Int) := by rw [g2 _ _ (by omega)]; exact hw
    have el : (L0 ++ w.take i).length = L0.length + i := by rw [List.length_append, List.length_take]; omega
    refine R208_161 H ⟨⟨by omega, by omega⟩, by rw [e149]; exact ⟨by omega, by omega⟩, ⟨by omega, by omega⟩, by rw [e149, e130]; exact ⟨by omega, by omega⟩, fun y => ?_, fun y => ⟨by rw [e149]; exact ⟨by omega, by omega⟩, by rw [g1.1, el]; exact ⟨by omega, by omega⟩, ?_⟩⟩
    · rw [e149, e130] at y
      omega
    · rintro m1 e1
      rw [e149, g2 129 _ (by omega), hws i (by omega)] at e1
      have et : w.take (i + 1) = w.take i ++ [w.getD i 0] := by
        rw [List.take_succ_eq_append_getElem (by omega : i < w.length), List.getD_eq_getElem?_getD, List.getElem?_eq_getElem (by omega : i < w.length)]
        rfl
      refine ih (i + 1) m1 (by omega) (by rw [et, ← List.append_assoc, e1]; exact RwL_snoc g1) (fun c j y => ?_)
      rw [e1, g1.1, el, up_o (by omega), up_o (by omega)]
      exact g2 c j y
end RWR
