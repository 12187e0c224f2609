/-! ===== the class's views: their cells; many, move, total, lifted ===== -/
section CVA
variable {μ : am_Mem} {v : Nat}
theorem cKv0 (H : CS μ) (hv : v = 96 ∨ v = 101) : am_kd μ v = (1, 10) := by
  rcases hv with rfl | rfl
  · exact cK_96 H
  · exact cK_101 H
theorem cKv1 (H : CS μ) (hv : v = 96 ∨ v = 101) : am_kd μ (v + 1) = (2, 1000) := by
  rcases hv with rfl | rfl
  · exact cK_97 H
  · exact cK_102 H
theorem cKv2 (H : CS μ) (hv : v = 96 ∨ v = 101) : am_kd μ (v + 2) = (2, 5) := by
  rcases hv with rfl | rfl
  · exact cK_98 H
  · exact cK_103 H
theorem cKv3 (H : CS μ) (hv : v = 96 ∨ v = 101) : am_kd μ (v + 3) = (2, 4) := by
  rcases hv with rfl | rfl
  · exact cK_99 H
  · exact cK_104 H
theorem cKv4 (H : CS μ) (hv : v = 96 ∨ v = 101) : am_kd μ (v + 4) = (2, 4) := by
  rcases hv with rfl | rfl
  · exact cK_100 H
  · exact cK_105 H
theorem cFv0 (H : CS μ) (hv : v = 96 ∨ v = 101) : am_F μ v 0 = v + 1 := by
  rcases hv with rfl | rfl
  · exact cF_96_0 H
  · exact cF_101_0 H
theorem cFv1 (H : CS μ) (hv : v = 96 ∨ v = 101) : am_F μ v 1 = v + 2 := by
  rcases hv with rfl | rfl
  · exact cF_96_1 H
  · exact cF_101_1 H
theorem cFv2 (H : CS μ) (hv : v = 96 ∨ v = 101) : am_F μ v 2 = v + 3 := by
  rcases hv with rfl | rfl
  · exact cF_96_2 H
  · exact cF_101_2 H
theorem cFv5 (H : CS μ) (hv : v = 96 ∨ v = 101) : am_F μ v 5 = v + 4 := by
  rcases hv with rfl | rfl
  · exact cF_96_5 H
  · exact cF_101_5 H
end CVA
theorem K114_0 {d : Nat} {Q : Option Value ⊕ Nat → am_Mem → Prop} {μ : am_Mem} {m l : PM} {x1 : Int} {v : Nat} (H : CS μ) (hv : v = 96 ∨ v = 101) (h : (0 ≤ (x1 + 1) ∧ (x1 + 1) < 5) ∧ (0 ≤ x1 ∧ x1 < 5) ∧ Q (.inl (some (.int (zI ((m (v + 2) (x1 + 1)) - (m (v + 2) x1)))))) (sA μ m l)) :
    Wp d 114 (0, [some (.ref v), some (.int (zI x1))], [], sA μ m l) Q := (b114_0 (d := d) (kdE (mr μ m l) (rfl : v = v) (cKv0 H hv)) (nnE (frE (mr μ m l) (rfl : v = v) (cFv1 H hv)) (by omega)) (k2E (kdE (mr μ m l) (frE (mr μ m l) (rfl : v = v) (cFv1 H hv)) (cKv2 H hv))) (ixE (kdE (mr μ m l) (frE (mr μ m l) (rfl : v = v) (cFv1 H hv)) (cKv2 H hv)) (addE (zr x1) (zr 1)) h.1 rfl (by decide)) (kdE (mr μ m l) (rfl : v = v) (cKv0 H hv)) (nnE (frE (mr μ m l) (rfl : v = v) (cFv1 H hv)) (by omega)) (k2E (kdE (mr μ m l) (frE (mr μ m l) (rfl : v = v) (cFv1 H hv)) (cKv2 H hv))) (ixE (kdE (mr μ m l) (frE (mr μ m l) (rfl : v = v) (cFv1 H hv)) (cKv2 H hv)) (zr x1) h.2.1 rfl (by decide)) (qT (riE (subE (rdE (mr μ m l) (frE (mr μ m l) (rfl : v = v) (cFv1 H hv)) (addE (zr x1) (zr 1)) h.1 (by decide)) (rdE (mr μ m l) (frE (mr μ m l) (rfl : v = v) (cFv1 H hv)) (zr x1) h.2.1 (by decide)))) (mr μ m l) h.2.2))
theorem K117_0 {d : Nat} {Q : Option Value ⊕ Nat → am_Mem → Prop} {μ : am_Mem} {m l : PM} {x1 x2 : Int} {v : Nat} (H : CS μ) (hv : v = 96 ∨ v = 101) (h : (0 ≤ x1 ∧ x1 < 5) ∧ (0 ≤ ((m (v + 2) x1) + x2) ∧ ((m (v + 2) x1) + x2) < 1000) ∧ Q (.inl (some (.int (zI (m (v + 1) ((m (v + 2) x1) + x2)))))) (sA μ m l)) :
    Wp d 117 (0, [some (.ref v), some (.int (zI x1)), some (.int (zI x2))], [], sA μ m l) Q := (b117_0 (d := d) (kdE (mr μ m l) (rfl : v = v) (cKv0 H hv)) (nnE (frE (mr μ m l) (rfl : v = v) (cFv0 H hv)) (by omega)) (kdE (mr μ m l) (rfl : v = v) (cKv0 H hv)) (nnE (frE (mr μ m l) (rfl : v = v) (cFv1 H hv)) (by omega)) (k2E (kdE (mr μ m l) (frE (mr μ m l) (rfl : v = v) (cFv1 H hv)) (cKv2 H hv))) (ixE (kdE (mr μ m l) (frE (mr μ m l) (rfl : v = v) (cFv1 H hv)) (cKv2 H hv)) (zr x1) h.1 rfl (by decide)) (k2E (kdE (mr μ m l) (frE (mr μ m l) (rfl : v = v) (cFv0 H hv)) (cKv1 H hv))) (ixE (kdE (mr μ m l) (frE (mr μ m l) (rfl : v = v) (cFv0 H hv)) (cKv1 H hv)) (addE (rdE (mr μ m l) (frE (mr μ m l) (rfl : v = v) (cFv1 H hv)) (zr x1) h.1 (by decide)) (zr x2)) h.2.1 rfl (by decide)) (qT (riE (rdE (mr μ m l) (frE (mr μ m l) (rfl : v = v) (cFv0 H hv)) (addE (rdE (mr μ m l) (frE (mr μ m l) (rfl : v = v) (cFv1 H hv)) (zr x1) h.1 (by decide)) (zr x2)) h.2.1 (by decide))) (mr μ m l) h.2.2))
theorem K113_0 {d : Nat} {Q : Option Value ⊕ Nat → am_Mem → Prop} {μ : am_Mem} {m l : PM} {v : Nat} (H : CS μ) (hv : v = 96 ∨ v = 101) (h : (iR (m v 4)) ∧ (((¬ (m v 4) = 0 → ((0 ≤ (m v 4) ∧ (m v 4) < 5) ∧ True)) ∧ (¬ (¬ (m v 4) = 0) → True))) ∧ (∀ v1 : Int, v1 = (if ¬ (m v 4) = 0 then m (v + 2) (m v 4) else 0) → Q (.inl (some (.int (zI v1)))) (sA μ m l))) :
    Wp d 113 (0, [some (.ref v)], [], sA μ m l) Q := (have q1 := (((show ∀ v1 : Int, v1 = (if ¬ (m v 4) = 0 then m (v + 2) (m v 4) else 0) → Wp d 113 (20, [some (.ref v)], [.int (zI v1)], sA μ m l) Q from fun v1 e1 => (b113_20 (d := d)  (qT (riE (zr v1)) (mr μ m l) (h.2.2 v1 e1)))) _ rfl) : Wp d 113 (20, [some (.ref v)], [.int (zI (if ¬ (m v 4) = 0 then m (v + 2) (m v 4) else 0))], sA μ m l) Q); b113_0 (d := d) (kdE (mr μ m l) (rfl : v = v) (cKv0 H hv)) (fun q2 => (b113_11 (d := d) (kdE (mr μ m l) (rfl : v = v) (cKv0 H hv)) (nnE (frE (mr μ m l) (rfl : v = v) (cFv1 H hv)) (by omega)) (kdE (mr μ m l) (rfl : v = v) (cKv0 H hv)) (k2E (kdE (mr μ m l) (frE (mr μ m l) (rfl : v = v) (cFv1 H hv)) (cKv2 H hv))) (ixE (kdE (mr μ m l) (frE (mr μ m l) (rfl : v = v) (cFv1 H hv)) (cKv2 H hv)) (rfE (mr μ m l) (rfl : v = v) rfl) (h.2.1.1 ((neE (rfE (mr μ m l) (rfl : v = v) rfl) z0 h.1 (⟨by decide, by decide⟩ : iR 0)).mp q2)).1 rfl (by decide)) (wpT (consE (laE (rfl : v = v)) rfl) (consE (viE ((rdE (mr μ m l) (frE (mr μ m l) (rfl : v = v) (cFv1 H hv)) (rfE (mr μ m l) (rfl : v = v) rfl) (h.2.1.1 ((neE (rfE (mr μ m l) (rfl : v = v) rfl) z0 h.1 (⟨by decide, by decide⟩ : iR 0)).mp q2)).1 (by decide)).trans (congrArg zI ((show (((if ¬ (m v 4) = 0 then m (v + 2) (m v 4) else 0) : Int) = (m (v + 2) (m v 4))) from by rw [if_pos (show ¬ (m v 4) = 0 from ((neE (rfE (mr μ m l) (rfl : v = v) rfl) z0 h.1 (⟨by decide, by decide⟩ : iR 0)).mp q2))]))).symm)) rfl) (mr μ m l) q1))) (fun q3 => (b113_7 (d := d)  (wpT (consE (laE (rfl : v = v)) rfl) (consE (viE ((zr 0).trans (congrArg zI ((show (((if ¬ (m v 4) = 0 then m (v + 2) (m v 4) else 0) : Int) = 0) from by rw [if_neg (show ¬ (¬ (m v 4) = 0) from (fun z => q3 ((neE (rfE (mr μ m l) (rfl : v = v) rfl) z0 h.1 (⟨by decide, by decide⟩ : iR 0)).mpr z)))]))).symm)) rfl) (mr μ m l) q1))))
