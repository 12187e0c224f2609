/-! ===== the reference's calls: defect, state, next, value, best ===== -/
/-- the first move that leads to a value -/
def BsI (v : Nat → Int) (x : Int) (ns : List Nat) (y : Int) : Prop := (y = -1 ∧ ∀ j : Nat, j < ns.length → ¬ v (ns.getD j 0) = x) ∨ (∃ j : Nat, j < ns.length ∧ y = (j : Int) ∧ v (ns.getD j 0) = x ∧ ∀ i : Nat, i < j → ¬ v (ns.getD i 0) = x)
theorem BsI_uni {v : Nat → Int} {x y y' : Int} {ns : List Nat} (h : BsI v x ns y) (h' : BsI v x ns y') : y = y' := by
  rcases h with ⟨e, h⟩ | ⟨j, j1, e, j2, j3⟩ <;> rcases h' with ⟨e', h'⟩ | ⟨j', j1', e', j2', j3'⟩
  · rw [e, e']
  · exact absurd j2' (h j' j1')
  · exact absurd j2 (h' j j1)
  · rcases Nat.lt_trichotomy j j' with q | q | q
    · exact absurd j2 (j3' j q)
    · rw [e, e', q]
    · exact absurd j2' (j3 j' q)
section RC5
variable {d : Nat} {μ : am_Mem} {Q : Option Value ⊕ Nat → am_Mem → Prop} {W : Int → Nat} {rs : List Rul} {L : List (List Cd)} {B : Nat} {m0 l0 : PM} {st : Option (List (List Cd))} {xp : Option (List (List (List Cd)) × List (List Nat))}
theorem df_R {k N : Nat} {ov : Nat → Prop} {g : Nat → Nat → Int} {mn : Nat → Nat → Nat} {nx : List (List Nat)} {kind stt : Int} (h : DfP k N ov g mn nx kind stt) (hN : N ≤ 300) : (0 ≤ kind ∧ kind ≤ 6) ∧ (-1 ≤ stt ∧ stt < 300) := by
  rcases h with ⟨_, e, e2⟩ | ⟨_, n, n1, _, e, e2, _⟩ | ⟨_, _, n, n1, _, e, e2, _⟩ | ⟨_, _, _, e, e2⟩
  · omega
  · have := dfS_R (ov := ov) (g := g) (mn := mn) n
    omega
  · omega
  · omega
theorem r_defect {x : Int} (H : RS μ) (hx : iR x) (hI : RfP W rs L B m0 st xp)
    (h1' : ∀ m' : PM, xp = none → RfP W rs L B m' st xp → m' 125 0 = 1 → (∀ c j, ¬ WPb c j → m' c j = m0 c j) → Q (.inl (some (.int (zI 0)))) (sA μ m' l0))
    (h2' : ∀ (m' : PM) (sts : List (List (List Cd))) (nx : List (List Nat)), xp = some (sts, nx) → ¬ (0 ≤ x ∧ x ≤ 1) → RfP W rs L B m' st xp → m' 125 0 = 2 → (∀ c j, ¬ WPb c j → m' c j = m0 c j) → Q (.inl (some (.int (zI 0)))) (sA μ m' l0))
    (hok : ∀ (m' : PM) (sts : List (List (List Cd))) (nx : List (List Nat)), xp = some (sts, nx) → (0 ≤ x ∧ x ≤ 1) → RfP W rs L B m' st xp → m' 125 0 = 0 → (∀ c j, ¬ WPb c j → m' c j = m0 c j) → Q (.inl (some (.int (zI (if x = 0 then m0 125 89 else m0 125 90))))) (sA μ m' l0)) :
    Wp (d + 2) 263 (0, [some (.ref 125), some (.int (zI x))], [], sA μ m0 l0) Q := by
  obtain ⟨h1, h2, h3, h4, h5⟩ := id hI
  cases xp with
  | none =>
    have e81 : m0 125 81 = 0 := h5
    refine R263_0 H ⟨by rw [e81]; exact iR_0, fun v1 ev1 => ⟨⟨fun _ => trivial, fun z => absurd e81 z⟩, fun v2 ev2 => ?_⟩⟩
    rw [if_neg (fun z => z e81)] at ev1
    rw [if_pos e81] at ev2
    rw [ev1, ev2]
    refine ⟨iR_1, rg_1, fun m3 e3 => ⟨by rw [rf_1]; exact iR_1, fun z => absurd (rf_1.symm.trans z) (by decide), fun _ => ?_⟩⟩
    rw [rm_1] at e3
    have f3 : ∀ c j, ¬ (c = 125 ∧ j = 0) → m3 c j = m0 c j := fun c j z => by rw [e3]; exact up_o z
    exact h1' m3 rfl (RfP_0 f3 hI) (by rw [e3, up_s]) (fun c j z => f3 c j (f1_0 (wp_f z)))
  | some p =>
    obtain ⟨sts, nx⟩ := p
    have e81 : m0 125 81 = 1 := h5.1
    have n81 : ¬ m0 125 81 = 0 := by rw [e81]; decide
    refine R263_0 H ⟨by rw [e81]; exact iR_1, fun v1 ev1 => ⟨⟨fun _ => trivial, fun _ => ⟨hx, trivial⟩⟩, fun v2 ev2 => ?_⟩⟩
    rw [if_pos n81] at ev1
    rw [if_neg n81] at ev2
    by_cases q : 0 ≤ x ∧ x ≤ 1
    · rw [if_pos q, if_pos (by decide)] at ev2
      rw [ev1, ev2]
      refine ⟨iR_0, rg_0 iR_0 iR_0, fun m3 e3 => ⟨by rw [rf_0]; exact iR_0, fun _ => ⟨hx, fun v4 ev4 => ?_⟩, fun z => absurd rf_0 z⟩⟩
      rw [rm_0] at e3
      have f3 : ∀ c j, ¬ (c = 125 ∧ j = 0) → m3 c j = m0 c j := fun c j z => by rw [e3]; exact up_o z
      have ev : v4 = if x = 0 then m0 125 89 else m0 125 90 := by
        rw [ev4]
        by_cases y : x = 0
        · rw [if_neg (fun z => z y), if_pos y]
        · rw [if_pos y, if_neg y]
      rw [ev]
      exact hok m3 sts nx rfl q (RfP_0 f3 hI) (by rw [e3, up_s]) (fun c j z => f3 c j (f1_0 (wp_f z)))
    · rw [if_neg q, if_neg (fun z => z rfl)] at ev2
      rw [ev1, ev2]
      refine ⟨iR_0, rg_0 iR_1 iR_0, fun m3 e3 => ⟨by rw [rf_2]; exact iR_1, fun z => absurd (rf_2.symm.trans z) (by decide), fun _ => ?_⟩⟩
      rw [rm_2] at e3
      have f3 : ∀ c j, ¬ (c = 125 ∧ j = 0) → m3 c j = m0 c j := fun c j z => by rw [e3]; exact up_o z
      exact h2' m3 sts nx rfl q (RfP_0 f3 hI) (by rw [e3, up_s]) (fun c j z => f3 c j (f1_0 (wp_f z)))
/-- is it a state's number -/
theorem isSt {m : PM} {n : Nat} (h : m 125 82 = (n : Int)) (x : Int) : (v_isState m x = 1 ∧ 0 ≤ x ∧ x < (n : Int)) ∨ (v_isState m x = 0 ∧ ¬ (0 ≤ x ∧ x < (n : Int))) := by
  unfold v_isState
  rw [h]
  by_cases q : 0 ≤ x ∧ x ≤ (n : Int) - 1
  · rw [if_pos q]
    exact Or.inl ⟨rfl, by omega⟩
  · rw [if_neg q]
    exact Or.inr ⟨rfl, by omega⟩
theorem r_state {x y : Int} (H : RS μ) (hx : iR x) (hy : iR y) (hI : RfP W rs L B m0 st xp)
    (h1' : ∀ m' : PM, xp = none → RfP W rs L B m' st xp → m' 125 0 = 1 → (∀ c j, ¬ WPb c j → m' c j = m0 c j) → Q (.inl (some (.int (zI 0)))) (sA μ m' l0))
    (h2' : ∀ (m' : PM) (sts : List (List (List Cd))) (nx : List (List Nat)), xp = some (sts, nx) → ¬ (0 ≤ x ∧ x < (sts.length : Int)) → RfP W rs L B m' st xp → m' 125 0 = 2 → (∀ c j, ¬ WPb c j → m' c j = m0 c j) → Q (.inl (some (.int (zI 0)))) (sA μ m' l0))
    (h3' : ∀ (m' : PM) (sts : List (List (List Cd))) (nx : List (List Nat)), xp = some (sts, nx) → (0 ≤ x ∧ x < (sts.length : Int)) → ¬ (0 ≤ y ∧ y ≤ 2) → RfP W rs L B m' st xp → m' 125 0 = 3 → (∀ c j, ¬ WPb c j → m' c j = m0 c j) → Q (.inl (some (.int (zI 0)))) (sA μ m' l0))
    (hok : ∀ (m' : PM) (sts : List (List (List Cd))) (nx : List (List Nat)), xp = some (sts, nx) → (0 ≤ x ∧ x < (sts.length : Int)) → (0 ≤ y ∧ y ≤ 2) → RfP W rs L B m' st xp → m' 125 0 = 0 → (∀ c j, ¬ WPb c j → m' c j = m0 c j) → Q (.inl (some (.int (zI (if y = 0 then ((sts.getD x.toNat []).length : Int) else if y = 1 then bP (ovO rs L (sts.getD x.toNat [])) else ((nx.getD x.toNat []).length : Int)))))) (sA μ m' l0)) :
    Wp (d + 2) 264 (0, [some (.ref 125), some (.int (zI x)), some (.int (zI y)), none], [], sA μ m0 l0) Q := by
  obtain ⟨h1, h2, h3, h4, h5⟩ := id hI
  cases xp with
  | none =>
    have e81 : m0 125 81 = 0 := h5
    refine R264_0 H ⟨by rw [e81]; exact iR_0, ⟨fun _ => trivial, fun z => absurd e81 z⟩, fun v1 ev1 v2 ev2 v3 ev3 => ?_⟩
    rw [if_pos e81] at ev1
    rw [if_neg (fun z => z e81)] at ev2
    rw [if_pos e81] at ev3
    rw [ev1, ev2, ev3]
    refine ⟨⟨fun _ => trivial, fun z => absurd rfl z⟩, fun v4 ev4 => ⟨iR_1, rg_1, fun m3 e3 => ⟨by rw [rf_1]; exact iR_1, fun z => absurd (rf_1.symm.trans z) (by decide), fun _ => ?_⟩⟩⟩
    rw [rm_1] at e3
    have f3 : ∀ c j, ¬ (c = 125 ∧ j = 0) → m3 c j = m0 c j := fun c j z => by rw [e3]; exact up_o z
    exact h1' m3 rfl (RfP_0 f3 hI) (by rw [e3, up_s]) (fun c j z => f3 c j (f1_0 (wp_f z)))
  | some p =>
    obtain ⟨sts, nx⟩ := p
    obtain ⟨e81, hxo, e82, hst, hT, hD, hV⟩ := id h5
    have n81 : ¬ m0 125 81 = 0 := by rw [e81]; decide
    have hN := hT.1
    rcases isSt e82 x with ⟨ev, hr⟩ | ⟨ev, hr⟩
    · refine R264_0 H ⟨by rw [e81]; exact iR_1, ⟨fun _ => trivial, fun _ => ⟨hx, by rw [e82]; exact ⟨by omega, by omega⟩, by rw [ev]; exact iR_1, trivial⟩⟩, fun v1 ev1 v2 ev2 v3 ev3 => ?_⟩
      rw [if_neg n81, ev, if_neg (by decide)] at ev1
      rw [if_pos n81] at ev2
      rw [if_neg n81, ev1, if_pos (by decide)] at ev3
      rw [ev1, ev2, ev3]
      refine ⟨⟨fun _ => trivial, fun _ => ⟨hy, trivial⟩⟩, fun v4 ev4 => ?_⟩
      rw [if_neg (by decide)] at ev4
      by_cases q : 0 ≤ y ∧ y ≤ 2
      · rw [if_pos q, if_pos (by decide)] at ev4
        rw [ev4]
        obtain ⟨r, rfl⟩ : ∃ r : Nat, x = (r : Int) := ⟨x.toNat, by omega⟩
        have er : ((r : Int)).toNat = r := by omega
        obtain ⟨a1, a2, a3, a4, a5⟩ := hT.2 r (by omega)
        obtain ⟨s1, s2, _, _⟩ := hst r (by omega)
        have h177 : iR (m0 177 (r : Int)) := by
          by_cases q : ovO rs L (sts.getD r [])
          · rw [a1, bP_1 q]; exact iR_1
          · rw [a1, bP_0 q]; exact iR_0
        refine ⟨iR_0, rg_0 iR_0 iR_0, fun m3 e3 => ⟨by rw [rf_0]; exact iR_0, fun _ => ⟨hy, ⟨fun _ => ⟨fun _ => ⟨⟨by omega, by omega⟩, trivial⟩, fun _ => ⟨⟨by omega, by omega⟩, h177, trivial⟩⟩, fun _ => ⟨⟨by omega, by omega⟩, trivial⟩⟩, fun v6 ev6 => ?_⟩, fun z => absurd rf_0 z⟩⟩
        rw [rm_0] at e3
        have f3 : ∀ c j, ¬ (c = 125 ∧ j = 0) → m3 c j = m0 c j := fun c j z => by rw [e3]; exact up_o z
        have z := hok m3 sts nx rfl hr q (RfP_0 f3 hI) (by rw [e3, up_s]) (fun c j z => f3 c j (f1_0 (wp_f z)))
        rw [er] at z
        have ev : v6 = if y = 0 then ((sts.getD r []).length : Int) else if y = 1 then bP (ovO rs L (sts.getD r [])) else ((nx.getD r []).length : Int) := by
          rw [ev6]
          by_cases y0 : y = 0
          · rw [if_neg (fun z => z y0), if_pos y0, s1]
          · rw [if_pos y0, if_neg y0]
            by_cases y1 : y = 1
            · rw [if_neg (fun z => z y1), if_pos y1]
              have a1 : m0 177 (r : Int) = bP (ovO rs L (sts.getD r [])) := a1
              by_cases q : ovO rs L (sts.getD r [])
              · rw [a1, bP_1 q]; rfl
              · rw [a1, bP_0 q]; rfl
            · rw [if_pos y1, if_neg y1, a3.1]
        rw [ev]
        exact z
      · rw [if_neg q, if_neg (fun z => z rfl)] at ev4
        rw [ev4]
        refine ⟨iR_0, rg_0 iR_0 iR_1, fun m3 e3 => ⟨by rw [rf_3]; exact iR_1, fun z => absurd (rf_3.symm.trans z) (by decide), fun _ => ?_⟩⟩
        rw [rm_3] at e3
        have f3 : ∀ c j, ¬ (c = 125 ∧ j = 0) → m3 c j = m0 c j := fun c j z => by rw [e3]; exact up_o z
        exact h3' m3 sts nx rfl hr q (RfP_0 f3 hI) (by rw [e3, up_s]) (fun c j z => f3 c j (f1_0 (wp_f z)))
    · refine R264_0 H ⟨by rw [e81]; exact iR_1, ⟨fun _ => trivial, fun _ => ⟨hx, by rw [e82]; exact ⟨by omega, by omega⟩, by rw [ev]; exact iR_0, trivial⟩⟩, fun v1 ev1 v2 ev2 v3 ev3 => ?_⟩
      rw [if_neg n81, ev, if_pos rfl] at ev1
      rw [if_pos n81] at ev2
      rw [if_neg n81, ev1, if_neg (fun z => z rfl)] at ev3
      rw [ev1, ev2, ev3]
      refine ⟨⟨fun _ => trivial, fun z => absurd rfl z⟩, fun v4 ev4 => ?_⟩
      rw [if_pos rfl] at ev4
      rw [ev4]
      refine ⟨iR_0, rg_0 iR_1 iR_0, fun m3 e3 => ⟨by rw [rf_2]; exact iR_1, fun z => absurd (rf_2.symm.trans z) (by decide), fun _ => ?_⟩⟩
      rw [rm_2] at e3
      have f3 : ∀ c j, ¬ (c = 125 ∧ j = 0) → m3 c j = m0 c j := fun c j z => by rw [e3]; exact up_o z
      exact h2' m3 sts nx rfl hr (RfP_0 f3 hI) (by rw [e3, up_s]) (fun c j z => f3 c j (f1_0 (wp_f z)))
theorem r_next {x y : Int} (H : RS μ) (hx : iR x) (hy : iR y) (hI : RfP W rs L B m0 st xp)
    (h1' : ∀ m' : PM, xp = none → RfP W rs L B m' st xp → m' 125 0 = 1 → (∀ c j, ¬ WPb c j → m' c j = m0 c j) → Q (.inl (some (.int (zI 0)))) (sA μ m' l0))
    (h2' : ∀ (m' : PM) (sts : List (List (List Cd))) (nx : List (List Nat)), xp = some (sts, nx) → ¬ ((0 ≤ x ∧ x < (sts.length : Int)) ∧ 0 ≤ y ∧ y < ((nx.getD x.toNat []).length : Int)) → RfP W rs L B m' st xp → m' 125 0 = 2 → (∀ c j, ¬ WPb c j → m' c j = m0 c j) → Q (.inl (some (.int (zI 0)))) (sA μ m' l0))
    (hok : ∀ (m' : PM) (sts : List (List (List Cd))) (nx : List (List Nat)), xp = some (sts, nx) → ((0 ≤ x ∧ x < (sts.length : Int)) ∧ 0 ≤ y ∧ y < ((nx.getD x.toNat []).length : Int)) → RfP W rs L B m' st xp → m' 125 0 = 0 → (∀ c j, ¬ WPb c j → m' c j = m0 c j) → Q (.inl (some (.int (zI ((nx.getD x.toNat []).getD y.toNat 0 : Int))))) (sA μ m' l0)) :
    Wp (d + 2) 266 (0, [some (.ref 125), some (.int (zI x)), some (.int (zI y)), none], [], sA μ m0 l0) Q := by
  obtain ⟨h1, h2, h3, h4, h5⟩ := id hI
  cases xp with
  | none =>
    have e81 : m0 125 81 = 0 := h5
    refine R266_0 H ⟨by rw [e81]; exact iR_0, ⟨fun _ => trivial, fun z => absurd e81 z⟩, fun v1 ev1 v2 ev2 v3 ev3 => ?_⟩
    rw [if_neg (fun z => z e81)] at ev2
    rw [if_pos e81] at ev3
    rw [ev2, ev3]
    refine ⟨iR_1, rg_1, fun m3 e3 => ⟨by rw [rf_1]; exact iR_1, fun z => absurd (rf_1.symm.trans z) (by decide), fun _ => ?_⟩⟩
    rw [rm_1] at e3
    have f3 : ∀ c j, ¬ (c = 125 ∧ j = 0) → m3 c j = m0 c j := fun c j z => by rw [e3]; exact up_o z
    exact h1' m3 rfl (RfP_0 f3 hI) (by rw [e3, up_s]) (fun c j z => f3 c j (f1_0 (wp_f z)))
  | some p =>
    obtain ⟨sts, nx⟩ := p
    obtain ⟨e81, hxo, e82, hst, hT, hD, hV⟩ := id h5
    have n81 : ¬ m0 125 81 = 0 := by rw [e81]; decide
    have hN := hT.1
    rcases isSt e82 x with ⟨ev, hr⟩ | ⟨ev, hr⟩
    · obtain ⟨r, rfl⟩ : ∃ r : Nat, x = (r : Int) := ⟨x.toNat, by omega⟩
      have er : ((r : Int)).toNat = r := by omega
      rw [er] at h2' hok
      obtain ⟨a1, a2, a3, a4, a5⟩ := hT.2 r (by omega)
      have nv : ¬ v_isState m0 (r : Int) = 0 := by rw [ev]; decide
      refine R266_0 H ⟨by rw [e81]; exact iR_1, ⟨fun _ => trivial, fun _ => ⟨hx, by rw [e82]; exact ⟨by omega, by omega⟩, by rw [ev]; exact iR_1, fun _ => trivial, fun _ => ⟨hy, fun z => absurd z n81, fun _ => ⟨fun z => absurd z nv, fun _ => ⟨⟨by omega, by omega⟩, by rw [a3.1]; exact ⟨by omega, by omega⟩, trivial⟩⟩⟩⟩⟩, fun v1 ev1 v2 ev2 v3 ev3 => ?_⟩
      rw [if_neg n81, if_neg nv, if_neg n81, if_neg nv, a3.1] at ev1
      rw [if_pos n81] at ev2
      rw [if_neg n81] at ev3
      by_cases q : 0 ≤ y ∧ y < ((nx.getD r []).length : Int)
      · rw [if_neg (show ¬ (if 0 ≤ y ∧ y ≤ ((nx.getD r []).length : Int) - 1 then (1 : Int) else 0) = 0 by rw [if_pos ⟨q.1, by omega⟩]; decide)] at ev1
        rw [ev1, if_pos (by decide)] at ev3
        rw [ev2, ev3]
        refine ⟨iR_0, rg_0 iR_0 iR_0, fun m3 e3 => ⟨by rw [rf_0]; exact iR_0, fun _ => ⟨⟨by omega, by omega⟩, ?_⟩, fun z => absurd rf_0 z⟩⟩
        rw [rm_0] at e3
        have f3 : ∀ c j, ¬ (c = 125 ∧ j = 0) → m3 c j = m0 c j := fun c j z => by rw [e3]; exact up_o z
        have e9 := a4 y.toNat (by omega)
        rw [show ((y.toNat : Nat) : Int) = y by omega] at e9
        rw [e9]
        exact hok m3 sts nx rfl ⟨hr, q⟩ (RfP_0 f3 hI) (by rw [e3, up_s]) (fun c j z => f3 c j (f1_0 (wp_f z)))
      · rw [if_pos (show (if 0 ≤ y ∧ y ≤ ((nx.getD r []).length : Int) - 1 then (1 : Int) else 0) = 0 by rw [if_neg (fun z => q ⟨z.1, by omega⟩)])] at ev1
        rw [ev1, if_neg (fun z => z rfl)] at ev3
        rw [ev2, ev3]
        refine ⟨iR_0, rg_0 iR_1 iR_0, fun m3 e3 => ⟨by rw [rf_2]; exact iR_1, fun z => absurd (rf_2.symm.trans z) (by decide), fun _ => ?_⟩⟩
        rw [rm_2] at e3
        have f3 : ∀ c j, ¬ (c = 125 ∧ j = 0) → m3 c j = m0 c j := fun c j z => by rw [e3]; exact up_o z
        exact h2' m3 sts nx rfl (fun z => q z.2) (RfP_0 f3 hI) (by rw [e3, up_s]) (fun c j z => f3 c j (f1_0 (wp_f z)))
    · refine R266_0 H ⟨by rw [e81]; exact iR_1, ⟨fun _ => trivial, fun _ => ⟨hx, by rw [e82]; exact ⟨by omega, by omega⟩, by rw [ev]; exact iR_0, fun _ => trivial, fun z => absurd ev z⟩⟩, fun v1 ev1 v2 ev2 v3 ev3 => ?_⟩
      rw [if_neg n81, if_pos ev] at ev1
      rw [if_pos n81] at ev2
      rw [if_neg n81, ev1, if_neg (fun z => z rfl)] at ev3
      rw [ev2, ev3]
      refine ⟨iR_0, rg_0 iR_1 iR_0, fun m3 e3 => ⟨by rw [rf_2]; exact iR_1, fun z => absurd (rf_2.symm.trans z) (by decide), fun _ => ?_⟩⟩
      rw [rm_2] at e3
      have f3 : ∀ c j, ¬ (c = 125 ∧ j = 0) → m3 c j = m0 c j := fun c j z => by rw [e3]; exact up_o z
      exact h2' m3 sts nx rfl (fun z => hr z.1) (RfP_0 f3 hI) (by rw [e3, up_s]) (fun c j z => f3 c j (f1_0 (wp_f z)))
theorem r_value {x : Int} (H : RS μ) (hx : iR x) (hI : RfP W rs L B m0 st xp)
    (h1' : ∀ m' : PM, (∀ sts nx, xp = some (sts, nx) → ¬ m0 125 89 = 0) → RfP W rs L B m' st xp → m' 125 0 = 1 → (∀ c j, ¬ WPb c j → m' c j = m0 c j) → Q (.inl (some (.int (zI 0)))) (sA μ m' l0))
    (h2' : ∀ (m' : PM) (sts : List (List (List Cd))) (nx : List (List Nat)), xp = some (sts, nx) → m0 125 89 = 0 → ¬ (0 ≤ x ∧ x < (sts.length : Int)) → RfP W rs L B m' st xp → m' 125 0 = 2 → (∀ c j, ¬ WPb c j → m' c j = m0 c j) → Q (.inl (some (.int (zI 0)))) (sA μ m' l0))
    (hok : ∀ (m' : PM) (sts : List (List (List Cd))) (nx : List (List Nat)), xp = some (sts, nx) → m0 125 89 = 0 → (0 ≤ x ∧ x < (sts.length : Int)) → RfP W rs L B m' st xp → m' 125 0 = 0 → (∀ c j, ¬ WPb c j → m' c j = m0 c j) → Q (.inl (some (.int (zI (m0 182 x))))) (sA μ m' l0)) :
    Wp (d + 2) 267 (0, [some (.ref 125), some (.int (zI x)), none], [], sA μ m0 l0) Q := by
  obtain ⟨h1, h2, h3, h4, h5⟩ := id hI
  cases xp with
  | none =>
    have e81 : m0 125 81 = 0 := h5
    refine R267_0 H ⟨by rw [e81]; exact iR_0, ⟨fun _ => trivial, fun z => absurd e81 z⟩, fun v1 ev1 v2 ev2 => ?_⟩
    rw [if_pos e81] at ev1
    rw [ev1, if_neg (fun z => z rfl)] at ev2
    rw [ev1, ev2]
    refine ⟨⟨fun _ => trivial, fun z => absurd rfl z⟩, fun v3 ev3 => ⟨iR_1, rg_1, fun m3 e3 => ⟨by rw [rf_1]; exact iR_1, fun z => absurd (rf_1.symm.trans z) (by decide), fun _ => ?_⟩⟩⟩
    rw [rm_1] at e3
    have f3 : ∀ c j, ¬ (c = 125 ∧ j = 0) → m3 c j = m0 c j := fun c j z => by rw [e3]; exact up_o z
    exact h1' m3 (fun _ _ z => absurd z (by intro w; cases w)) (RfP_0 f3 hI) (by rw [e3, up_s]) (fun c j z => f3 c j (f1_0 (wp_f z)))
  | some p =>
    obtain ⟨sts, nx⟩ := p
    obtain ⟨e81, hxo, e82, hst, hT, hD, hV⟩ := id h5
    have n81 : ¬ m0 125 81 = 0 := by rw [e81]; decide
    have hN := hT.1
    have hdr := (df_R hD hN).1
    by_cases k0 : m0 125 89 = 0
    · rcases isSt e82 x with ⟨ev, hr⟩ | ⟨ev, hr⟩
      · refine R267_0 H ⟨by rw [e81]; exact iR_1, ⟨fun _ => trivial, fun _ => ⟨by rw [k0]; exact iR_0, trivial⟩⟩, fun v1 ev1 v2 ev2 => ?_⟩
        rw [if_neg n81, if_neg (fun z => z k0)] at ev1
        rw [ev1, if_pos (by decide)] at ev2
        rw [ev1, ev2]
        refine ⟨⟨fun _ => trivial, fun _ => ⟨hx, by rw [e82]; exact ⟨by omega, by omega⟩, by rw [ev]; exact iR_1, trivial⟩⟩, fun v3 ev3 => ?_⟩
        rw [if_neg (by decide), ev, if_pos (by decide)] at ev3
        rw [ev3]
        refine ⟨iR_0, rg_0 iR_0 iR_0, fun m3 e3 => ⟨by rw [rf_0]; exact iR_0, fun _ => ⟨⟨by omega, by omega⟩, ?_⟩, fun z => absurd rf_0 z⟩⟩
        rw [rm_0] at e3
        have f3 : ∀ c j, ¬ (c = 125 ∧ j = 0) → m3 c j = m0 c j := fun c j z => by rw [e3]; exact up_o z
        exact hok m3 sts nx rfl k0 hr (RfP_0 f3 hI) (by rw [e3, up_s]) (fun c j z => f3 c j (f1_0 (wp_f z)))
      · refine R267_0 H ⟨by rw [e81]; exact iR_1, ⟨fun _ => trivial, fun _ => ⟨by rw [k0]; exact iR_0, trivial⟩⟩, fun v1 ev1 v2 ev2 => ?_⟩
        rw [if_neg n81, if_neg (fun z => z k0)] at ev1
        rw [ev1, if_pos (by decide)] at ev2
        rw [ev1, ev2]
        refine ⟨⟨fun _ => trivial, fun _ => ⟨hx, by rw [e82]; exact ⟨by omega, by omega⟩, by rw [ev]; exact iR_0, trivial⟩⟩, fun v3 ev3 => ?_⟩
        rw [if_neg (by decide), ev, if_neg (fun z => z rfl)] at ev3
        rw [ev3]
        refine ⟨iR_0, rg_0 iR_1 iR_0, fun m3 e3 => ⟨by rw [rf_2]; exact iR_1, fun z => absurd (rf_2.symm.trans z) (by decide), fun _ => ?_⟩⟩
        rw [rm_2] at e3
        have f3 : ∀ c j, ¬ (c = 125 ∧ j = 0) → m3 c j = m0 c j := fun c j z => by rw [e3]; exact up_o z
        exact h2' m3 sts nx rfl k0 hr (RfP_0 f3 hI) (by rw [e3, up_s]) (fun c j z => f3 c j (f1_0 (wp_f z)))
    · refine R267_0 H ⟨by rw [e81]; exact iR_1, ⟨fun _ => trivial, fun _ => ⟨⟨by omega, by omega⟩, trivial⟩⟩, fun v1 ev1 v2 ev2 => ?_⟩
      rw [if_neg n81, if_pos k0] at ev1
      rw [ev1, if_neg (fun z => z rfl)] at ev2
      rw [ev1, ev2]
      refine ⟨⟨fun _ => trivial, fun z => absurd rfl z⟩, fun v3 ev3 => ⟨iR_1, rg_1, fun m3 e3 => ⟨by rw [rf_1]; exact iR_1, fun z => absurd (rf_1.symm.trans z) (by decide), fun _ => ?_⟩⟩⟩
      rw [rm_1] at e3
      have f3 : ∀ c j, ¬ (c = 125 ∧ j = 0) → m3 c j = m0 c j := fun c j z => by rw [e3]; exact up_o z
      exact h1' m3 (fun _ _ _ => k0) (RfP_0 f3 hI) (by rw [e3, up_s]) (fun c j z => f3 c j (f1_0 (wp_f z)))
theorem r_best {x : Int} (H : RS μ) (hx : iR x) (hI : RfP W rs L B m0 st xp)
    (h1' : ∀ m' : PM, (∀ sts nx, xp = some (sts, nx) → ¬ m0 125 89 = 0) → RfP W rs L B m' st xp → m' 125 0 = 1 → (∀ c j, ¬ WPb c j → m' c j = m0 c j) → Q (.inl (some (.int (zI 0)))) (sA μ m' l0))
    (h2' : ∀ (m' : PM) (sts : List (List (List Cd))) (nx : List (List Nat)), xp = some (sts, nx) → m0 125 89 = 0 → ¬ (0 ≤ x ∧ x < (sts.length : Int)) → RfP W rs L B m' st xp → m' 125 0 = 2 → (∀ c j, ¬ WPb c j → m' c j = m0 c j) → Q (.inl (some (.int (zI 0)))) (sA μ m' l0))
    (hok : ∀ (m' : PM) (sts : List (List (List Cd))) (nx : List (List Nat)) (y : Int), xp = some (sts, nx) → m0 125 89 = 0 → (0 ≤ x ∧ x < (sts.length : Int)) → BsI (fun b => m0 182 (b : Int)) (m0 182 x) (nx.getD x.toNat []) y → RfP W rs L B m' st xp → m' 125 0 = 0 → (∀ c j, ¬ WPb c j → m' c j = m0 c j) → Q (.inl (some (.int (zI y)))) (sA μ m' l0)) :
    Wp (d + 2) 268 (0, [some (.ref 125), some (.int (zI x)), none, none, none], [], sA μ m0 l0) Q := by
  obtain ⟨h1, h2, h3, h4, h5⟩ := id hI
  cases xp with
  | none =>
    have e81 : m0 125 81 = 0 := h5
    refine R268_0 H ⟨by rw [e81]; exact iR_0, ⟨fun _ => trivial, fun z => absurd e81 z⟩, fun v1 ev1 v2 ev2 => ?_⟩
    rw [if_pos e81] at ev1
    rw [ev1, if_neg (fun z => z rfl)] at ev2
    rw [ev1, ev2]
    refine ⟨⟨fun _ => trivial, fun z => absurd rfl z⟩, fun v3 ev3 => ⟨iR_1, rg_1, fun m3 e3 => ⟨by rw [rf_1]; exact iR_1, fun z => absurd (rf_1.symm.trans z) (by decide), fun _ => ?_⟩⟩⟩
    rw [rm_1] at e3
    have f3 : ∀ c j, ¬ (c = 125 ∧ j = 0) → m3 c j = m0 c j := fun c j z => by rw [e3]; exact up_o z
    exact h1' m3 (fun _ _ z => absurd z (by intro w; cases w)) (RfP_0 f3 hI) (by rw [e3, up_s]) (fun c j z => f3 c j (f1_0 (wp_f z)))
  | some p =>
    obtain ⟨sts, nx⟩ := p
    obtain ⟨e81, hxo, e82, hst, hT, hD, hV⟩ := id h5
    have n81 : ¬ m0 125 81 = 0 := by rw [e81]; decide
    have hN := hT.1
    have hdr := (df_R hD hN).1
    by_cases k0 : m0 125 89 = 0
    · rcases isSt e82 x with ⟨ev, hr⟩ | ⟨ev, hr⟩
      · refine R268_0 H ⟨by rw [e81]; exact iR_1, ⟨fun _ => trivial, fun _ => ⟨by rw [k0]; exact iR_0, trivial⟩⟩, fun v1 ev1 v2 ev2 => ?_⟩
        rw [if_neg n81, if_neg (fun z => z k0)] at ev1
        rw [ev1, if_pos (by decide)] at ev2
        rw [ev1, ev2]
        refine ⟨⟨fun _ => trivial, fun _ => ⟨hx, by rw [e82]; exact ⟨by omega, by omega⟩, by rw [ev]; exact iR_1, trivial⟩⟩, fun v3 ev3 => ?_⟩
        rw [if_neg (by decide), ev, if_pos (by decide)] at ev3
        rw [ev3]
        refine ⟨iR_0, rg_0 iR_0 iR_0, fun m3 e3 => ⟨by rw [rf_0]; exact iR_0, fun _ => ⟨⟨by omega, by omega⟩, ?_⟩, fun z => absurd rf_0 z⟩⟩
        rw [rm_0] at e3
        have f3 : ∀ c j, ¬ (c = 125 ∧ j = 0) → m3 c j = m0 c j := fun c j z => by rw [e3]; exact up_o z
        obtain ⟨r, rfl⟩ : ∃ r : Nat, x = (r : Int) := ⟨x.toNat, by omega⟩
        have er : ((r : Int)).toNat = r := by omega
        rw [er] at hok
        have hrN : r < sts.length := by omega
        obtain ⟨a1, a2, a3, a4, a5⟩ := hT.2 r hrN
        have hv := (hV k0).2
        have loop : ∀ (k : Nat) (y : Int), k ≤ (nx.getD r []).length → (-1 ≤ y ∧ y < 300) → ((y = -1 ∧ ∀ j : Nat, k ≤ j → j < (nx.getD r []).length → ¬ m0 182 (((nx.getD r []).getD j 0 : Nat) : Int) = m0 182 (r : Int)) ∨ (∃ j : Nat, k ≤ j ∧ j < (nx.getD r []).length ∧ y = (j : Int) ∧ m0 182 (((nx.getD r []).getD j 0 : Nat) : Int) = m0 182 (r : Int) ∧ ∀ i : Nat, k ≤ i → i < j → ¬ m0 182 (((nx.getD r []).getD i 0 : Nat) : Int) = m0 182 (r : Int))) → Wp (d + 2) 268 (68, [some (.ref 125), some (.int (zI (r : Int))), some (.int (zI 1)), some (.int (zI y)), some (.int (zI ((k : Int) - 1)))], [], sA μ m3 l0) Q := by
          intro k
          induction k with
          | zero =>
            intro y hk hy hc
            refine R268_68 H ⟨⟨by omega, by omega⟩, fun _ => ?_, fun z => absurd (by omega) z⟩
            refine hok m3 sts nx y rfl k0 hr ?_ (RfP_0 f3 hI) (by rw [e3, up_s]) (fun c j z => f3 c j (f1_0 (wp_f z)))
            rcases hc with ⟨e, h⟩ | ⟨j, _, j1, e, j2, j3⟩
            · exact Or.inl ⟨e, fun j hj => h j (Nat.zero_le _) hj⟩
            · exact Or.inr ⟨j, j1, e, j2, fun i hi => j3 i (Nat.zero_le _) hi⟩
          | succ k ih =>
            intro y hk hy hc
            rw [show ((k + 1 : Nat) : Int) - 1 = (k : Int) by omega]
            have hkl : k < (nx.getD r []).length := by omega
            have e9 : m3 179 (40 * (r : Int) + (k : Int)) = (((nx.getD r []).getD k 0 : Nat) : Int) := by rw [f3 _ _ (by omega)]; exact a4 k hkl
            have hbN := a5 _ (nx_mem hkl)
            have v1' := hv _ hbN
            have v2' := hv r hrN
            have e182 : ∀ i : Int, m3 182 i = m0 182 i := fun i => f3 _ _ (by omega)
            refine R268_68 H ⟨⟨by omega, by omega⟩, fun z => by omega, fun _ => ⟨⟨by omega, by omega⟩, by rw [e9]; exact ⟨by omega, by omega⟩, ⟨by omega, by omega⟩, by rw [e9, e182]; exact ⟨by omega, by omega⟩, by rw [e182]; exact ⟨by omega, by omega⟩, fun w1 ew1 => ?_⟩⟩
            rw [e9, e182, e182] at ew1
            by_cases q : m0 182 (((nx.getD r []).getD k 0 : Nat) : Int) = m0 182 (r : Int)
            · rw [if_neg (fun z => z q)] at ew1
              rw [ew1]
              exact ih (k : Int) (by omega) ⟨by omega, by omega⟩ (Or.inr ⟨k, Nat.le_refl _, hkl, rfl, q, fun i i1 i2 => by omega⟩)
            · rw [if_pos q] at ew1
              rw [ew1]
              refine ih y (by omega) hy ?_
              rcases hc with ⟨e, h⟩ | ⟨j, j0, j1, e, j2, j3⟩
              · refine Or.inl ⟨e, fun j j1 j2 => ?_⟩
                by_cases ej : j = k
                · rw [ej]; exact q
                · exact h j (by omega) j2
              · refine Or.inr ⟨j, by omega, j1, e, j2, fun i i1 i2 => ?_⟩
                by_cases ei : i = k
                · rw [ei]; exact q
                · exact j3 i (by omega) i2
        rw [a3.1]
        exact loop (nx.getD r []).length (-1) (Nat.le_refl _) ⟨by decide, by decide⟩ (Or.inl ⟨rfl, fun j j1 j2 => by omega⟩)
      · refine R268_0 H ⟨by rw [e81]; exact iR_1, ⟨fun _ => trivial, fun _ => ⟨by rw [k0]; exact iR_0, trivial⟩⟩, fun v1 ev1 v2 ev2 => ?_⟩
        rw [if_neg n81, if_neg (fun z => z k0)] at ev1
        rw [ev1, if_pos (by decide)] at ev2
        rw [ev1, ev2]
        refine ⟨⟨fun _ => trivial, fun _ => ⟨hx, by rw [e82]; exact ⟨by omega, by omega⟩, by rw [ev]; exact iR_0, trivial⟩⟩, fun v3 ev3 => ?_⟩
        rw [if_neg (by decide), ev, if_neg (fun z => z rfl)] at ev3
        rw [ev3]
        refine ⟨iR_0, rg_0 iR_1 iR_0, fun m3 e3 => ⟨by rw [rf_2]; exact iR_1, fun z => absurd (rf_2.symm.trans z) (by decide), fun _ => ?_⟩⟩
        rw [rm_2] at e3
        have f3 : ∀ c j, ¬ (c = 125 ∧ j = 0) → m3 c j = m0 c j := fun c j z => by rw [e3]; exact up_o z
        exact h2' m3 sts nx rfl k0 hr (RfP_0 f3 hI) (by rw [e3, up_s]) (fun c j z => f3 c j (f1_0 (wp_f z)))
    · refine R268_0 H ⟨by rw [e81]; exact iR_1, ⟨fun _ => trivial, fun _ => ⟨⟨by omega, by omega⟩, trivial⟩⟩, fun v1 ev1 v2 ev2 => ?_⟩
      rw [if_neg n81, if_pos k0] at ev1
      rw [ev1, if_neg (fun z => z rfl)] at ev2
      rw [ev1, ev2]
      refine ⟨⟨fun _ => trivial, fun z => absurd rfl z⟩, fun v3 ev3 => ⟨iR_1, rg_1, fun m3 e3 => ⟨by rw [rf_1]; exact iR_1, fun z => absurd (rf_1.symm.trans z) (by decide), fun _ => ?_⟩⟩⟩
      rw [rm_1] at e3
      have f3 : ∀ c j, ¬ (c = 125 ∧ j = 0) → m3 c j = m0 c j := fun c j z => by rw [e3]; exact up_o z
      exact h1' m3 (fun _ _ _ => k0) (RfP_0 f3 hI) (by rw [e3, up_s]) (fun c j z => f3 c j (f1_0 (wp_f z)))
end RC5
