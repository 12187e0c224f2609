/-! ===== the reference: workOut ===== -/
theorem psR_m {ru : Rul} {c : Nat × Atm} (hc : c ∈ ru.2) (h1 : c.1 = 1) : ∃ i, i < (posR ru).length ∧ (posR ru).getD i ([], []) = c.2 := by
  have h : c.2 ∈ posR ru := List.mem_map.mpr ⟨c, psC_mem.mpr ⟨hc, h1⟩, rfl⟩
  exact (mem_gD _ ([], []) _).mp h
/-- what is known of the rules of a sheet that is kept -/
theorem RuF_of {rs : List Rul} (hg : GoS rs) {r : Nat} (hr : r < rs.length) : RuF (rs.getD r ruD) (posR (rs.getD r ruD)) := by
  have hru : rs.getD r ruD ∈ rs := (mem_gD rs ruD _).mpr ⟨r, hr, rfl⟩
  obtain ⟨o1, o2, o3⟩ := hg.1 _ hru
  have b5 := ((chF_ok hg.2.2.2.2).1 r hr).2.2.1
  have vr : ∀ v, v < 8 → (atW (rs.getD r ruD).1 v ∨ ∃ c, c ∈ (rs.getD r ruD).2 ∧ 1 < c.1 ∧ atW c.2 v) → ∃ i, i < (posR (rs.getD r ruD)).length ∧ ∃ q, q ∈ ((posR (rs.getD r ruD)).getD i ([], [])).2 ∧ ∃ c', c' ∈ q ∧ c'.1 = 5 + v := fun v hv h => by
    obtain ⟨c, c1, c2, q, c3, c4⟩ : ∃ c, c ∈ (rs.getD r ruD).2 ∧ c.1 = 1 ∧ atW c.2 v := Classical.byContradiction fun z => b5 ⟨v, hv, h, z⟩
    obtain ⟨i, i1, i2⟩ := psR_m c1 c2
    obtain ⟨c', d1, d2⟩ := c4
    exact ⟨i, i1, q, by rw [i2]; exact c3, c', d1, d2⟩
  have vp : ∀ a : Atm, OkA a → (∀ v, atW a v → atW (rs.getD r ruD).1 v ∨ ∃ c, c ∈ (rs.getD r ruD).2 ∧ 1 < c.1 ∧ atW c.2 v) → ∀ p, p ∈ a.2 → VrP (posR (rs.getD r ruD)) p := fun a ha h p hp c hc h5 => by
    have w := wfT_ok 11 p (ha.2 p hp) c hc h5
    obtain ⟨i, i1, q, q1, c', c1, c2⟩ := vr (c.1 - 5) (by omega) (h _ ⟨p, hp, c, hc, by omega⟩)
    exact ⟨w.2, i, i1, q, q1, c', c1, by omega⟩
  refine ⟨fun p hp => ⟨vp _ o1 (fun v z => Or.inl z) p hp, hg.2.2.2.1 _ hru p hp, (hg.2.2.1 _ hru p hp).1, (hg.2.2.1 _ hru p hp).2⟩, fun c hc h1 p hp => ?_, o1.1, fun c hc h1 => psR_m hc h1, fun c hc h3 => ?_⟩
  · have k := (o3 c hc).2
    exact vp c.2 (o3 c hc).1 (fun v z => Or.inr ⟨c, hc, by omega, z⟩) p hp
  · rcases (o3 c hc).2 with k | k | k
    · omega
    · omega
    · exact k.2.2
/-- fired before, fired now -/
theorem Dn_st {lev : List Int → Nat} {k : Nat} {S S1 S2 : List Atm} {ru : Rul} {β : Nat → List Cd} (hx : ExS lev k S S1) (hn : ∀ c, c ∈ ru.2 → c.1 = 2 → lev c.2.1 < k) (hx2 : ∀ a, a ∈ S2 → a ∈ S1) (h : Dn ru S S2 β) : Dn ru S1 S1 β := fun ho => hx2 _ (h (fun c hc => (Oth_st hx (hn c hc)).mp (ho c hc)))
theorem ExS_e {lev : List Int → Nat} {k : Nat} {S S1 : List Atm} (hx : ExS lev k S S1) (h : S1.length = S.length) : S1 = S := by
  obtain ⟨L, e, _⟩ := hx
  rw [e, List.length_append] at h
  rw [e, List.eq_nil_of_length_eq_zero (by omega : L.length = 0), List.append_nil]
/-- how far the rules of a layer were tried -/
def Trd (lev : List Int → Nat) (k : Nat) (rs : List Rul) (m : PM) (S : List Atm) : Prop := ∀ r, r < rs.length → lev (rs.getD r ruD).1.1 = k → (m 169 r = -1 ∨ ∃ old : Nat, m 169 r = (old : Int) ∧ old ≤ S.length ∧ ∀ β, Gb β → (∀ i, i < (posR (rs.getD r ruD)).length → ∃ a : Nat, a < old ∧ S.getD a ([], []) = sbA β ((posR (rs.getD r ruD)).getD i ([], []))) → Dn (rs.getD r ruD) S S β)
/-- the work of all rules -/
def smR (S : List Atm) (rs : List Rul) : Nat := (rs.map (rmA S)).sum
theorem smR_t {S : List Atm} {rs : List Rul} {r : Nat} (h : r < rs.length) : smR S (rs.take (r + 1)) = smR S (rs.take r) + rmA S (rs.getD r ruD) := by
  unfold smR
  rw [List.take_succ_eq_append_getElem h, List.map_append, List.sum_append, List.getD_eq_getElem?_getD, List.getElem?_eq_getElem h]
  rfl
/-- where working out may write -/
abbrev WWi (c : Nat) (j : Int) : Prop := WTp c j ∨ c = 161 ∨ c = 169 ∨ (c = 125 ∧ (j = 58 ∨ j = 68 ∨ j = 69))
abbrev WWo (c : Nat) (j : Int) : Prop := WWi c j ∨ c = 148
section RWO
variable {d : Nat} {μ : am_Mem} {l0 : PM} {C0 : Nat} {W : Int → Nat} {rs : List Rul} {B : List Atm} {Q : Option Value ⊕ Nat → am_Mem → Prop}
/-- it is too great: all loops end -/
theorem wo_gt30 {m l : PM} {x1 x2 : Int} {o3 o4 : Option Value} (H : RS μ) (hx1 : iR x1) (hx2 : iR x2) (h12 : iR (m 125 12)) (h56 : m 125 56 = 1) (hX : ∀ l' : PM, (∀ c j, ¬ (c = 125 ∧ j = 57) → l' c j = l c j) → Q (.inl none) (sA μ m l')) : Wp (d + 8) 221 (30, [some (.ref 125), some (.int (zI x1)), some (.int (zI x2)), o3, o4], [], sA μ m l) Q := by
  have h0 : iR 0 := ⟨by decide, by decide⟩
  have e56 : iR (m 125 56) := by rw [h56]; exact ⟨by decide, by decide⟩
  have go : ∀ l1 : PM, l1 = up l 125 57 0 → Wp (d + 8) 221 (169, [some (.ref 125), some (.int (zI x1)), some (.int (zI 0)), o3, o4], [], sA μ m l1) Q := fun l1 e => by
    have hl : ∀ c j, ¬ (c = 125 ∧ j = 57) → l1 c j = l c j := fun c j z => by rw [e]; exact up_o z
    exact R221_169 H ⟨h0, h12, fun _ => hX l1 hl, fun _ => ⟨e56, fun _ => hX l1 hl, fun z => absurd (fun y => absurd (h56.symm.trans y) (by decide)) z⟩⟩
  exact R221_30 H ⟨hx2, hx1, fun _ => go, fun _ => ⟨e56, fun _ => go, fun z => absurd (fun y => absurd (h56.symm.trans y) (by decide)) z⟩⟩
theorem wo_gt60 {m l : PM} {x1 x2 x3 x4 : Int} (H : RS μ) (hx1 : iR x1) (hx2 : iR (x2 + 1)) (hx3 : iR x3) (hx4 : iR x4) (h12 : iR (m 125 12)) (h56 : m 125 56 = 1) (hX : ∀ l' : PM, (∀ c j, ¬ (c = 125 ∧ j = 57) → l' c j = l c j) → Q (.inl none) (sA μ m l')) : Wp (d + 8) 221 (60, [some (.ref 125), some (.int (zI x1)), some (.int (zI x2)), some (.int (zI x3)), some (.int (zI x4))], [], sA μ m l) Q := by
  have e56 : iR (m 125 56) := by rw [h56]; exact ⟨by decide, by decide⟩
  have go : ∀ o4 : Option Value, Wp (d + 8) 221 (44, [some (.ref 125), some (.int (zI x1)), some (.int (zI x2)), some (.int (zI x3)), o4], [], sA μ m l) Q := fun o4 => R221_44 H ⟨hx3, fun _ => wo_gt30 H hx1 hx2 h12 h56 hX, fun _ => ⟨e56, fun _ => wo_gt30 H hx1 hx2 h12 h56 hX, fun z => absurd (fun y => absurd (h56.symm.trans y) (by decide)) z⟩⟩
  exact R221_60 H ⟨hx4, h12, fun _ => go _, fun _ => ⟨e56, fun _ => go _, fun z => absurd (fun y => absurd (h56.symm.trans y) (by decide)) z⟩⟩
/-- the last loop: the work of all rules -/
theorem wo_fin {x1 : Int} {o3 o4 : Option Value} {T k : Nat} {S : List Atm} {lev : List Int → Nat} {m1 : PM} (H : RS μ) (hL : LvO lev rs)
    (hP : Prt rs B lev k S) (hall : ∀ ru, ru ∈ rs → lev ru.1.1 < k) (hBS : ∀ a, a ∈ B → a ∈ S) (h48 : ∀ a, a ∈ S → ∀ p, p ∈ a.2 → tlC p ≤ 48 ∧ NeC p)
    (hok : ∀ (m' l' : PM), EvG rs B S → WkR W rs m' T S → m' 125 56 = 0 → l' 125 57 = (smR S rs : Int) → (∀ c j, ¬ WWi c j → m' c j = m1 c j) → (∀ c j, ¬ (c = 125 ∧ j = 57) → l' c j = l0 c j) → Q (.inl none) (sA μ m' l'))
    (hX : ∀ (m' l' : PM), (¬ ∃ S', EvG rs B S') → WkR W rs m' T S → m' 125 56 = 1 → (∀ c j, ¬ WWi c j → m' c j = m1 c j) → (∀ c j, ¬ (c = 125 ∧ j = 57) → l' c j = l0 c j) → Q (.inl none) (sA μ m' l')) :
    ∀ (f r : Nat) (m l : PM), r + f = rs.length → WkR W rs m T S → m 125 56 = 0 → (∀ c j, ¬ WWi c j → m c j = m1 c j) → (∀ c j, ¬ (c = 125 ∧ j = 57) → l c j = l0 c j) → l 125 57 = (smR S (rs.take r) : Int) → (∀ r', r' < r → rmA S (rs.getD r' ruD) ≤ 300000) → Wp (d + 8) 221 (169, [some (.ref 125), some (.int (zI x1)), some (.int (zI (r : Int))), o3, o4], [], sA μ m l) Q := by
  intro f
  induction f with
  | zero =>
    intro r m l hr hw h56 fr frl hl hrm
    have hn := RV_n hw.1
    have er : r = rs.length := by omega
    refine R221_169 H ⟨⟨by omega, by omega⟩, by rw [hn.1]; exact ⟨by omega, by omega⟩, fun _ => hok m l (Prt_end hP hall hBS hw.2.2.2.2.1.2.1 (fun a ha p hp => (h48 a ha p hp).1) (fun ru hru => ?_)) hw h56 (by rw [hl, er, List.take_length]) fr frl, fun z => by rw [hn.1] at z; omega⟩
    obtain ⟨r', h1, h2⟩ := (mem_gD rs ruD ru).mp hru
    rw [← h2]
    exact hrm r' (by omega)
  | succ f ih =>
    intro r m l hr hw h56 fr frl hl hrm
    have hn := RV_n hw.1
    have hlt : r < rs.length := by omega
    have h65 := hw.2.2.2.2.2.2
    have h51 := hw.2.1.2.2.1
    refine R221_169 H ⟨⟨by omega, by omega⟩, by rw [hn.1]; exact ⟨by omega, by omega⟩, fun z => by rw [hn.1] at z; omega, fun _ => ⟨by rw [h56]; exact ⟨by decide, by decide⟩, fun z => absurd h56 z, fun _ => ⟨_, _, c_room (d := d + 7) H hw hlt, fun y μ' hp => ?_, fun _ _ z => z.elim⟩⟩⟩
    obtain ⟨rfl, rfl⟩ := hp
    have hrV : iR (rmV S (rs.getD r ruD)) := by
      unfold rmV
      split
      · exact ⟨by omega, by omega⟩
      · exact ⟨by decide, by decide⟩
    refine R221_190 H ⟨hrV, ?_⟩
    rintro v1 e1 m2 e2
    have f2 : ∀ c j, ¬ (c = 125 ∧ j = 56) → m2 c j = m c j := fun c j z => by rw [e2]; exact up_o z
    have w2 : WkR W rs m2 T S := WkR_cg (fun c j z => f2 c j (by omega)) (fun j => by rw [f2 _ _ (by omega)]; exact h51 j) (fun j => by rw [f2 _ _ (by omega)]; exact h65 j) hw
    have fr2 : ∀ c j, ¬ WWi c j → m2 c j = m1 c j := fun c j z => by rw [f2 c j (by omega)]; exact fr c j z
    have e56 : m2 125 56 = v1 := by rw [e2, up_s]
    refine ⟨_, _, c_room (d := d + 7) H w2 hlt, fun y μ' hp => ?_, fun _ _ z => z.elim⟩
    obtain ⟨rfl, rfl⟩ := hp
    refine R221_214 H ⟨hrV, ?_⟩
    rintro l1 e3
    have frl1 : ∀ c j, ¬ (c = 125 ∧ j = 57) → l1 c j = l0 c j := fun c j z => by rw [e3, up_o z]; exact frl c j z
    by_cases hle : rmA S (rs.getD r ruD) ≤ 300000
    · have ev : rmV S (rs.getD r ruD) = (rmA S (rs.getD r ruD) : Int) := if_pos hle
      rw [ev, if_pos (by omega)] at e1
      have go := ih (r + 1) m2 l1 (by omega) w2 (by rw [e56, e1]) fr2 frl1 (by rw [e3, up_s, hl, ev, smR_t hlt]; omega) (fun r' hr' => by
        by_cases y : r' = r
        · rw [y]; exact hle
        · exact hrm r' (by omega))
      rw [show ((r + 1 : Nat) : Int) = (r : Int) + 1 by omega] at go
      exact go
    · have ev : rmV S (rs.getD r ruD) = 300001 := if_neg hle
      rw [ev, if_neg (by decide)] at e1
      have e56' : m2 125 56 = 1 := by rw [e56, e1]
      have bad := hX m2 l1 (Prt_room hL hP ((mem_gD rs ruD _).mpr ⟨r, hlt, rfl⟩) (by omega)) w2 e56' fr2 frl1
      have hn2 := RV_n w2.1
      exact R221_169 H ⟨⟨by omega, by omega⟩, by rw [hn2.1]; exact ⟨by omega, by omega⟩, fun _ => bad, fun _ => ⟨by rw [e56']; exact ⟨by decide, by decide⟩, fun _ => bad, fun z => absurd (fun y => absurd (e56'.symm.trans y) (by decide)) z⟩⟩
end RWO
