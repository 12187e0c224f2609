/-! ===== the class's sheet; for expand: a base in another order, few moves ===== -/
theorem EvG_mem {rs : List Rul} {B B' S : List Atm} (e : ∀ a, a ∈ B ↔ a ∈ B') (h : EvG rs B S) : EvG rs B' S := by
  obtain ⟨h1, h2, h3⟩ := h
  refine ⟨fun a ha => h1 a ((e a).mpr ha), fun l1 a l2 es => ?_, h3⟩
  rcases h2 l1 a l2 es with y | y
  · exact Or.inl ((e a).mp y)
  · exact Or.inr y
theorem Evb_mem {rs : List Rul} {B B' : List Atm} (e : ∀ a, a ∈ B ↔ a ∈ B') : Evb rs B ↔ Evb rs B' := ⟨fun ⟨S, h⟩ => ⟨S, EvG_mem e h⟩, fun ⟨S, h⟩ => ⟨S, EvG_mem (fun a => (e a).symm) h⟩⟩
theorem bS_mem {st st' : List (List Cd)} (h : ∀ t, t ∈ st ↔ t ∈ st') (M : List Atm) : ∀ a, a ∈ baS st ++ M ↔ a ∈ baS st' ++ M := by
  have one : ∀ (u v : List (List Cd)), (∀ t, t ∈ u → t ∈ v) → ∀ a, a ∈ baS u → a ∈ baS v := fun u v huv a ha => by
    obtain ⟨t, t1, e⟩ := bS_m ha
    rw [e]
    exact List.mem_map.mpr ⟨t, huv t t1, rfl⟩
  intro a
  rw [List.mem_append, List.mem_append]
  constructor
  · rintro (y | y)
    · exact Or.inl (one st st' (fun t => (h t).mp) a y)
    · exact Or.inr y
  · rintro (y | y)
    · exact Or.inl (one st' st (fun t => (h t).mpr) a y)
    · exact Or.inr y
theorem mul_sum {a b : Nat} (ha : 0 < a) (hb : 0 < b) : a + b ≤ a * b + 1 := by
  obtain ⟨x, rfl⟩ : ∃ x, a = x + 1 := ⟨a - 1, by omega⟩
  obtain ⟨y, rfl⟩ : ∃ y, b = y + 1 := ⟨b - 1, by omega⟩
  have e : (x + 1) * (y + 1) = x * y + x + (y + 1) := by
    rw [Nat.add_mul, Nat.mul_add, Nat.one_mul, Nat.mul_one]
  rw [e]
  omega
theorem pfs_jm {mv : Nat → List (List Cd)} : ∀ {n : Nat}, (∀ r, r < n → 0 < (mv r).length) → 0 < jmP mv n ∧ pfs mv n + 1 ≤ jmP mv n + n := by
  intro n
  induction n with
  | zero => intro _; exact ⟨Nat.succ_pos 0, Nat.le_refl 1⟩
  | succ n ih =>
    intro h
    obtain ⟨i1, i2⟩ := ih (fun r hr => h r (by omega))
    have hb := h n (by omega)
    have hm := mul_sum i1 hb
    have e1 : jmP mv (n + 1) = jmP mv n * (mv n).length := rfl
    have e2 : pfs mv (n + 1) = pfs mv n + (mv n).length := rfl
    rw [e1, e2]
    exact ⟨Nat.mul_pos i1 hb, by omega⟩
/-- few joint moves: few moves -/
theorem pfs_43 {mv : Nat → List (List Cd)} {n : Nat} (hn : n ≤ 4) (h0 : 0 < jmN n mv) (h40 : jmN n mv ≤ 40) : pfs mv n ≤ 43 := by
  have hp := pfs_jm (jmN_pos h0)
  unfold jmN at h0 h40
  by_cases y : n = 0
  · rw [if_pos y] at h0
    exact absurd h0 (by decide)
  · rw [if_neg y] at h40
    omega
section CSH
variable {d : Nat} {Q : Option Value ⊕ Nat → am_Mem → Prop} {X : Int → List Int → Prop} {W : Int → Nat} {s q e N0 : Nat} {rs : List Rul} {μ : am_Mem} {m l : PM} {st : Option (List (List Cd))} {x : Int}
theorem kl_sheet (hS : ShX s μ q e) (hs : s = 22 ∨ s = 42) (h4 : am_F μ 16 4 = s) (hI : ClI X W s rs q m N0 st) (h6 : m 16 6 = 1) (hx : iR x)
    (h2 : ¬ (0 ≤ x ∧ x ≤ 1) → Q (.inr 0) (sA (am_nX μ) m l))
    (hok : (0 ≤ x ∧ x ≤ 1) → Q (.inl (some (.int (zI (if x = 0 then (rs.length : Int) else ((rlS rs).length : Int)))))) (sA μ m l)) :
    Wp (d + 1) 123 (0, [some (.ref 16), some (.int (zI x))], [], sA μ m l) Q := by
  obtain ⟨⟨s1, s2, s3, s4, s5, s6⟩, ⟨x1, x2⟩, _, _, x7⟩ := id hS
  obtain ⟨T, hB, _⟩ := id hI
  have e13 := (KV_n hB.1.1).1
  have e4 := hB.2.2.2.2.1.1
  refine K123_0 s1 s2 (TQ_q s3) hs s5 h4 ⟨fun μ' => Wp (d + 1) 123 (4, [some (.ref 16), some (.int (zI x))], [], μ') Q, noX, K124_0 s1 ⟨by rw [h6]; exact iR_1, fun _ => ?_, fun z => absurd (fun y => absurd (h6.symm.trans y) (by decide)) z⟩, fun _ h => h, fun _ _ z => z.elim⟩
  show Wp (d + 1) 123 (4, [some (.ref 16), some (.int (zI x))], [], sA μ m l) Q
  refine K123_4 s1 s2 (TQ_q s3) hs s5 h4 ⟨hx, fun z v1 ev => ?_, fun z => ⟨fun z2 v1 ev => ?_, fun z2 => h2 (by omega)⟩⟩
  · have := hok (by omega)
    rw [if_pos z] at this
    rw [if_neg (fun h => h z), e13] at ev
    rw [ev]
    exact this
  · have := hok (by omega)
    rw [if_neg z] at this
    rw [if_pos z, e4] at ev
    rw [ev]
    exact this
end CSH
