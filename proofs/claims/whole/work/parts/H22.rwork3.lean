/-! ===== the reference: workOut, its contract ===== -/
section RWQ
variable {d : Nat} {μ : am_Mem} {l0 : PM} {C0 T : Nat} {W : Int → Nat} {rs : List Rul} {B : List Atm} {Q : Option Value ⊕ Nat → am_Mem → Prop}
theorem c_workOut {m0 : PM} (H : RS μ) (hg : GoS rs) (hw : WkR W rs m0 T B) (hW : ∀ x w, nX m0 x w → W x = wdt rs w) (hnd : B.Nodup) (hB : ∀ a, a ∈ B → ∀ p, p ∈ a.2 → tlC p ≤ 48 ∧ NeC p) (hT : T ≤ C0 + 76 * B.length) (hC : C0 + 85000 ≤ 130000) (h56 : m0 125 56 = 0)
    (hok : ∀ (m' l' : PM) (T' : Nat) (S : List Atm), EvG rs B S → WkR W rs m' T' S → (∀ a, a ∈ S → ∀ p, p ∈ a.2 → tlC p ≤ 48 ∧ NeC p) → T' ≤ C0 + 76 * S.length → m' 125 56 = 0 → l' 125 57 = (smR S rs : Int) → (∀ c j, ¬ WWo c j → m' c j = m0 c j) → (∀ c j, ¬ (c = 125 ∧ j = 57) → l' c j = l0 c j) → Q (.inl none) (sA μ m' l'))
    (hX : ∀ (m' l' : PM) (T' : Nat) (S : List Atm), (¬ ∃ S', EvG rs B S') → WkR W rs m' T' S → m' 125 56 = 1 → (∀ c j, ¬ WWo c j → m' c j = m0 c j) → (∀ c j, ¬ (c = 125 ∧ j = 57) → l' c j = l0 c j) → Q (.inl none) (sA μ m' l')) :
    Wp (d + 8) 221 (0, [some (.ref 125), none, none, none, none], [], sA μ m0 l0) Q := by
  have hv0 := hw.1
  have hn0 := RV_n hv0
  refine R221_0 H ⟨_, _, c_layers (d := d + 7) H hv0 (fun r hr => ((chF_ok hg.2.2.2.2).1 r hr).2.2.2.1), fun y μ' hp => ?_, fun _ _ z => z.elim⟩
  obtain ⟨m1, most, rfl, rfl, hI, hLy, f1⟩ := hp
  have hv1 : RV m1 rs := RV_cg2 (fun c j z => f1 c j (by omega)) hv0
  have hD1 := hv1.2.2.1
  have w1 : WkR W rs m1 T B := WkR_cg (fun c j z => f1 c j (by omega)) (fun j => by rw [f1 _ _ (by omega)]; exact hw.2.1.2.2.1 j) (fun j => by rw [f1 _ _ (by omega)]; exact hw.2.2.2.2.2.2 j) hw
  obtain ⟨lev, hlev⟩ : ∃ lev : List Int → Nat, ∀ x w, nX m1 x w → (lev w : Int) = m1 148 x := ⟨fun w => (m1 148 (Classical.epsilon (fun x => nX m1 x w))).toNat, fun x w hx => by
    have e := Classical.epsilon_spec (p := fun x => nX m1 x w) ⟨x, hx⟩
    have e2 : Classical.epsilon (fun x => nX m1 x w) = x := nX_in2 hD1 e hx
    have := (hI.2 x w hx).1
    show (((m1 148 (Classical.epsilon (fun x => nX m1 x w))).toNat : Nat) : Int) = m1 148 x
    rw [e2]
    omega⟩
  have hhd : ∀ r, r < rs.length → m1 148 (m1 135 (m1 131 r)) = (lev (rs.getD r ruD).1.1 : Int) := fun r hr => (hlev _ _ (RV_head hv1 hr).2.2.1).symm
  have hmost := hI.1
  have hLm : ∀ r, r < rs.length → (lev (rs.getD r ruD).1.1 : Int) ≤ most := fun r hr => by
    have h := (RV_head hv1 hr).2.2.1
    have := (hI.2 _ _ h).2.2
    rw [hlev _ _ h]
    exact this
  have hL : LvO lev rs := fun ru hru c hc => by
    obtain ⟨r, hr, e⟩ := (mem_gD rs ruD ru).mp hru
    rw [← e] at hc ⊢
    obtain ⟨j, hj, e2⟩ := (mem_gD _ cnD c).mp hc
    have hx := (RV_cond hv1 hr hj).2.2.2.2.2.1
    have hd := (RV_head hv1 hr).2.2.1
    have a := hlev _ _ hd
    have z := hLy r hr j hj
    rw [e2] at hx z
    refine ⟨fun e1 => ?_, fun e1 => ?_⟩
    · have b := hlev _ _ (hx (by omega))
      have := (z _ (hx (by omega))).1 e1
      omega
    · have b := hlev _ _ (hx (by omega))
      have := (z _ (hx (by omega))).2 e1
      omega
  have hW1 : ∀ x w, nX m1 x w → W x = wdt rs w := fun x w h => hW x w (nX_cg (f1 _ _ (by omega)).symm (fun i => (f1 _ _ (by omega)).symm) (fun i => (f1 _ _ (by omega)).symm) h)
  have fro : ∀ {m : PM}, (∀ c j, ¬ WWi c j → m c j = m1 c j) → ∀ c j, ¬ WWo c j → m c j = m0 c j := fun {m} fr c j z => by rw [fr c j (by omega)]; exact f1 c j (by omega)
  have hX1 : ∀ (m' l' : PM) (T' : Nat) (S : List Atm), (¬ ∃ S', EvG rs B S') → WkR W rs m' T' S → m' 125 56 = 1 → (∀ c j, ¬ WWi c j → m' c j = m1 c j) → (∀ c j, ¬ (c = 125 ∧ j = 57) → l' c j = l0 c j) → Q (.inl none) (sA μ m' l') := fun m' l' T' S a b c e f => hX m' l' T' S a b c (fro e) f
  have hR1 : iR most := ⟨by omega, by omega⟩
  have lay : ∀ (g k : Nat) (m : PM) (T : Nat) (S : List Atm) (o3 o4 : Option Value), ((k + g : Nat) : Int) = most + 1 → EvS W rs B lev k C0 m T S → m 125 56 = 0 → (∀ a, a ∈ B → a ∈ S) → (∀ c j, ¬ WWi c j → m c j = m1 c j) → (∀ r, r < rs.length → k ≤ lev (rs.getD r ruD).1.1 → m 169 r = -1) → Wp (d + 8) 221 (30, [some (.ref 125), some (.int (zI most)), some (.int (zI (k : Int))), o3, o4], [], sA μ m l0) Q := by
    intro g
    induction g with
    | zero =>
      intro k m T S o3 o4 hk hE e56 hBS fr _
      refine R221_30 H ⟨⟨by omega, by omega⟩, hR1, fun _ => ?_, fun z => by omega⟩
      rintro l1 e1
      have frl : ∀ c j, ¬ (c = 125 ∧ j = 57) → l1 c j = l0 c j := fun c j z => by rw [e1]; exact up_o z
      refine wo_fin (l0 := l0) (m1 := m1) (T := T) (S := S) (k := k) (lev := lev) H hL hE.2.1 (fun ru hru => ?_) hBS hE.2.2.1 (fun m' l' y1 y2 y3 y4 y5 y6 => hok m' l' T S y1 y2 hE.2.2.1 hE.2.2.2 y3 y4 (fro y5) y6) (fun m' l' y1 y2 y3 y4 y5 => hX1 m' l' T S y1 y2 y3 y4 y5) rs.length 0 m l1 (by omega) hE.1 e56 fr frl (by rw [e1, up_s]; rfl) (fun r' hr' => absurd hr' (Nat.not_lt_zero r'))
      obtain ⟨r, hr, e⟩ := (mem_gD rs ruD ru).mp hru
      have := hLm r hr
      rw [e] at this
      omega
    | succ g ih =>
      intro k m T S o3 o4 hk hE e56 hBS fr h169
      refine R221_30 H ⟨⟨by omega, by omega⟩, hR1, fun z => by omega, fun _ => ⟨by rw [e56]; exact ⟨by decide, by decide⟩, fun z => absurd e56 z, fun _ => ?_⟩⟩
      refine wo_layer (C0 := C0) H hg hv1 hL hC hW1 hhd (fun r hr => by have := hLm r hr; omega) hR1 (by omega) hX1 (fun m2 T2 S2 o3 o4 E2 e2 b2 f2 t2 => ?_) (1000 - S.length) m T S o4 (Nat.le_refl _) hE e56 hBS fr (fun r hr hlt => h169 r hr (by omega)) (fun r hr hlt => Or.inl (h169 r hr (by omega)))
      have go := ih (k + 1) m2 T2 S2 o3 o4 (by omega) E2 e2 b2 f2 (fun r hr hle => t2 r hr (by omega))
      rw [show ((k + 1 : Nat) : Int) = (k : Int) + 1 by omega] at go
      exact go
  have init : ∀ (f i : Nat) (m : PM), i + f = rs.length → (∀ r : Nat, r < i → m 169 r = -1) → (∀ c j, ¬ c = 169 → m c j = m1 c j) → Wp (d + 8) 221 (7, [some (.ref 125), some (.int (zI most)), some (.int (zI (i : Int))), none, none], [], sA μ m l0) Q := by
    intro f
    induction f with
    | zero =>
      intro i m hi g1 fr
      have e12 : m 125 12 = (rs.length : Int) := by rw [fr _ _ (by decide)]; exact (RV_n hv1).1
      refine R221_7 H ⟨⟨by omega, by omega⟩, by rw [e12]; exact ⟨by omega, by omega⟩, fun _ => ?_, fun z => by omega⟩
      have w : WkR W rs m T B := WkR_cg (fun c j z => fr c j (by omega)) (fun j => by rw [fr _ _ (by decide)]; exact w1.2.1.2.2.1 j) (fun j => by rw [fr _ _ (by decide)]; exact w1.2.2.2.2.2.2 j) w1
      have go := lay (most + 1).toNat 0 m T B none none (by omega) ⟨w, ⟨fun a ha => Or.inl ha, fun l1 a l2 e => Or.inl (by rw [e]; simp), fun ru _ hlt => absurd hlt (Nat.not_lt_zero _), hnd⟩, hB, hT⟩ (by rw [fr _ _ (by decide), f1 _ _ (by decide)]; exact h56) (fun a ha => ha) (fun c j z => fr c j (by omega)) (fun r hr _ => g1 r (by omega))
      exact go
    | succ f ih =>
      intro i m hi g1 fr
      have e12 : m 125 12 = (rs.length : Int) := by rw [fr _ _ (by decide)]; exact (RV_n hv1).1
      refine R221_7 H ⟨⟨by omega, by omega⟩, by rw [e12]; exact ⟨by omega, by omega⟩, fun z => by omega, fun _ => ⟨⟨by omega, by omega⟩, ?_⟩⟩
      rintro m2 e2
      have go := ih (i + 1) m2 (by omega) (fun j hj => by
        by_cases w : j = i
        · rw [w, e2, up_s]
        · rw [e2, up_i (by omega)]
          exact g1 j (by omega)) (fun c j z => by rw [e2, up_c z]; exact fr c j z)
      rw [show ((i + 1 : Nat) : Int) = (i : Int) + 1 by omega] at go
      exact go
  exact R221_4 H (init rs.length 0 m1 (by omega) (fun r hr => absurd hr (Nat.not_lt_zero r)) (fun _ _ _ => rfl))
end RWQ
