/-! ===== the class's terms: keep ===== -/
theorem Sub_g : ∀ (f : Nat) {p c : List Cd}, GdC c → SubF f p c → GdC p := by
  intro f
  induction f with
  | zero => intro p c hc e; rw [show p = c from e]; exact hc
  | succ f ih =>
    intro p c hc h
    obtain ⟨q, _, w, ps, _, h3, h4⟩ := h
    exact h3 p h4
section CKP
variable {d : Nat} {Q : Option Value ⊕ Nat → am_Mem → Prop} {X : Int → List Int → Prop} {μ : am_Mem} {l : PM} {T q N P S a r1 L1 M : Nat}
theorem CtT_f6 {m m' : PM} (k : ∀ c j, (q ≤ c ∧ c ≤ q + 7 ∧ ¬ c = q + 6) ∨ (c = 84 ∧ j = 9) → m' c j = m c j) (h : CtT X q N S m T) : CtT X q N S m' T := by
  have e0 : m' q = m q := funext fun j => k _ _ (by omega)
  have e1 : m' (q + 1) = m (q + 1) := funext fun j => k _ _ (by omega)
  have e2 : m' (q + 2) = m (q + 2) := funext fun j => k _ _ (by omega)
  have e4 : m' (q + 4) = m (q + 4) := funext fun j => k _ _ (by omega)
  have e5 : m' (q + 5) = m (q + 5) := funext fun j => k _ _ (by omega)
  have e7 : m' (q + 7) = m (q + 7) := funext fun j => k _ _ (by omega)
  have e9 : m' 84 9 = m 84 9 := k _ _ (by omega)
  refine CtT_cg (P := 0) (Nat.le_refl _) h ?_ (fun c j z => k c j (by omega))
  unfold CtI
  rw [e0, e1, e2, e4, e5, e7, e9]
  exact h.1
/-- what is flagged is needed -/
def FlI (X : Int → List Int → Prop) (q : Nat) (m0 : PM) (L : List (List Cd)) (M T : Nat) (m : PM) : Prop := (∀ t : Nat, M ≤ t → t < T → m (q + 6) (t : Int) = -1 ∨ (m (q + 6) (t : Int) = 0 ∧ ∃ p, Cg X q m0 t p ∧ ∃ c, c ∈ L ∧ Sub p c)) ∧ ∀ c j, ¬ c = q + 6 → m c j = m0 c j
theorem k_flag {m0 m : PM} {L : List (List Cd)} {u : Nat} (H : CS μ) (TS_ : TS μ q N P S) (hq : TQ q N P S) (hI : CtT X q N S m0 T) (hM : M ≤ T) (hF : FlI X q m0 L M T m) (hu : u < T) (hneed : M ≤ u → ∃ p, Cg X q m0 u p ∧ ∃ c, c ∈ L ∧ Sub p c)
    (hk : ∀ m' : PM, FlI X q m0 L M T m' → (M ≤ u → m' (q + 6) (u : Int) = 0) → (∀ t : Nat, M ≤ t → t < T → ¬ t = u → m' (q + 6) (t : Int) = m (q + 6) (t : Int)) → (∀ t : Nat, M ≤ t → t < T → m (q + 6) (t : Int) = 0 → m' (q + 6) (t : Int) = 0) → Q (.inl none) (sA μ m' l)) : Wp d 95 (0, [some (.ref 84), some (.int (zI (u : Int))), some (.int (zI (M : Int)))], [], sA μ m l) Q := by
  have hTN := hI.1.2.1
  have h58 : N ≤ 58192 := by omega
  refine K95_0 H TS_ hq ⟨⟨by omega, by omega⟩, ⟨by omega, by omega⟩, fun z => ?_, fun z => ⟨⟨by omega, by omega⟩, fun m1 e1 => ?_⟩⟩
  · exact hk m hF (fun h => absurd h (by omega)) (fun _ _ _ _ => rfl) (fun _ _ _ h => h)
  · have hMu : M ≤ u := by omega
    have s : m1 (q + 6) (u : Int) = 0 := by rw [e1, up_s]
    have o : ∀ t : Nat, ¬ t = u → m1 (q + 6) (t : Int) = m (q + 6) (t : Int) := fun t ht => by rw [e1, up_i (by omega)]
    refine hk m1 ⟨fun t t1 t2 => ?_, fun c j z => by rw [e1, up_c z]; exact hF.2 c j z⟩ (fun _ => s) (fun t _ _ ht => o t ht) (fun t t1 t2 ht => ?_)
    · by_cases y : t = u
      · rw [y]; exact Or.inr ⟨s, hneed hMu⟩
      · rw [o t y]; exact hF.1 t t1 t2
    · by_cases y : t = u
      · rw [y]; exact s
      · rw [o t y]; exact ht
/-- all that is needed is flagged -/
def FlC (X : Int → List Int → Prop) (q : Nat) (m0 : PM) (L : List (List Cd)) (M T r1 : Nat) (m : PM) : Prop := FlI X q m0 L M T m ∧ (∀ i : Nat, i < L.length → ∀ u : Nat, m0 r1 (i : Int) = (u : Int) → M ≤ u → m (q + 6) (u : Int) = 0) ∧ ∀ t : Nat, M ≤ t → t < T → m (q + 6) (t : Int) = 0 → ∀ k : Nat, (k : Int) < m0 (q + 1) (t : Int) → ∀ u : Nat, m0 (q + 2) (4 * (t : Int) + k) = (u : Int) → M ≤ u → m (q + 6) (u : Int) = 0
/-- the flags are set -/
theorem kp_flags {m0 : PM} {L : List (List Cd)} (H : CS μ) (TS_ : TS μ q N P S) (hq : TQ q N P S) (ha : a = 23 ∨ a = 43) (h0 : am_F μ 84 0 = a) (hI : CtT X q N S m0 T) (hM : M ≤ T) (k1 : am_kd μ r1 = (2, L1)) (b1 : L1 ≤ 2000) (hr1 : 94 ≤ r1 ∧ r1 < 185) (hb : L.length ≤ L1) (hrow : RwC X q m0 T r1 0 L) (hg : ∀ p, p ∈ L → GdC p)
    (hok : ∀ (m : PM) (o6 : Option Value), FlC X q m0 L M T r1 m → ∃ (P : am_Mem → Prop) (X : Nat → am_Mem → Prop), Wp (d + 2) 90 (0, [some (.ref 84), some (.int (zI (M : Int))), none], [], sA μ m l) (pV P X) ∧ (∀ μ', P μ' → Wp (d + 3) 94 (126, [some (.ref 84), some (.ref r1), some (.int (zI (L.length : Int))), some (.int (zI (M : Int))), some (.int (zI (T : Int))), some (.int (zI ((M : Int) - 1))), o6], [], μ') Q) ∧ ∀ x μ', X x μ' → Q (.inr x) μ') :
    Wp (d + 3) 94 (0, [some (.ref 84), some (.ref r1), some (.int (zI (L.length : Int))), some (.int (zI (M : Int))), none, none, none], [], sA μ m0 l) Q := by
  have hTN := hI.1.2.1
  have h58 : N ≤ 58192 := by omega
  have e9 := hI.1.1
  -- from the top down
  have down : ∀ (g : Nat) (m : PM) (o6 : Option Value), M + g ≤ T → FlI X q m0 L M T m → (∀ i : Nat, i < L.length → ∀ u : Nat, m0 r1 (i : Int) = (u : Int) → M ≤ u → m (q + 6) (u : Int) = 0) → (∀ t : Nat, M + g ≤ t → t < T → m (q + 6) (t : Int) = 0 → ∀ k : Nat, (k : Int) < m0 (q + 1) (t : Int) → ∀ u : Nat, m0 (q + 2) (4 * (t : Int) + k) = (u : Int) → M ≤ u → m (q + 6) (u : Int) = 0) → Wp (d + 3) 94 (60, [some (.ref 84), some (.ref r1), some (.int (zI (L.length : Int))), some (.int (zI (M : Int))), some (.int (zI (T : Int))), some (.int (zI (((M + g : Nat) : Int) - 1))), o6], [], sA μ m l) Q := by
    intro g
    induction g with
    | zero =>
      intro m o6 hMg hF hL hC
      refine K94_60 H TS_ hq ha h0 k1 b1 ⟨⟨by omega, by omega⟩, ⟨by omega, by omega⟩, fun _ => ?_, fun z => absurd (by omega) z⟩
      rw [show ((M + 0 : Nat) : Int) - 1 = (M : Int) - 1 by omega]
      exact hok m o6 ⟨hF, hL, fun t t1 t2 => hC t (by omega) t2⟩
    | succ g ih =>
      intro m o6 hMg hF hL hC
      have et : ((M + (g + 1) : Nat) : Int) - 1 = ((M + g : Nat) : Int) := by omega
      refine K94_60 H TS_ hq ha h0 k1 b1 ⟨⟨by omega, by omega⟩, ⟨by omega, by omega⟩, fun z => absurd z (by omega), fun _ => ?_⟩
      rw [et]
      have htT : M + g < T := by omega
      obtain ⟨c1, c2, c3, _⟩ := hI.1.2.2.1 (M + g) htT
      have inner : ∀ (h k : Nat) (m1 : PM), (k : Int) + (h : Int) = m0 (q + 1) ((M + g : Nat) : Int) → FlI X q m0 L M T m1 → (∀ i : Nat, i < L.length → ∀ u : Nat, m0 r1 (i : Int) = (u : Int) → M ≤ u → m1 (q + 6) (u : Int) = 0) → (∀ t : Nat, M + (g + 1) ≤ t → t < T → m1 (q + 6) (t : Int) = 0 → ∀ k : Nat, (k : Int) < m0 (q + 1) (t : Int) → ∀ u : Nat, m0 (q + 2) (4 * (t : Int) + k) = (u : Int) → M ≤ u → m1 (q + 6) (u : Int) = 0) → (m1 (q + 6) ((M + g : Nat) : Int) = 0 → ∀ k' : Nat, k' < k → ∀ u : Nat, m0 (q + 2) (4 * ((M + g : Nat) : Int) + k') = (u : Int) → M ≤ u → m1 (q + 6) (u : Int) = 0) → Wp (d + 3) 94 (69, [some (.ref 84), some (.ref r1), some (.int (zI (L.length : Int))), some (.int (zI (M : Int))), some (.int (zI (T : Int))), some (.int (zI ((M + g : Nat) : Int))), some (.int (zI (k : Int)))], [], sA μ m1 l) Q := by
        intro h
        induction h with
        | zero =>
          intro k m1 hk hF1 hL1 hC1 hd
          have e1 : m1 (q + 1) ((M + g : Nat) : Int) = m0 (q + 1) ((M + g : Nat) : Int) := hF1.2 _ _ (by omega)
          refine K94_69 H TS_ hq ha h0 k1 b1 ⟨⟨by omega, by omega⟩, ⟨by omega, by omega⟩, by rw [e1]; exact ⟨by omega, by omega⟩, fun _ => ?_, fun z => absurd (by rw [e1]; omega) z⟩
          refine ih m1 _ (by omega) hF1 hL1 (fun t t1 t2 ht k' hk' u hu hMu => ?_)
          by_cases y : t = M + g
          · rw [y] at ht hk' hu
            exact hd ht k' (by omega) u hu hMu
          · exact hC1 t (by omega) t2 ht k' hk' u hu hMu
        | succ h ihh =>
          intro k m1 hk hF1 hL1 hC1 hd
          have e1 : m1 (q + 1) ((M + g : Nat) : Int) = m0 (q + 1) ((M + g : Nat) : Int) := hF1.2 _ _ (by omega)
          have e2 : m1 (q + 2) (4 * ((M + g : Nat) : Int) + (k : Int)) = m0 (q + 2) (4 * ((M + g : Nat) : Int) + (k : Int)) := hF1.2 _ _ (by omega)
          have e6 := hF1.1 (M + g) (by omega) htT
          obtain ⟨c3a, c3b⟩ := c3 k (by omega)
          obtain ⟨u, eu⟩ : ∃ u : Nat, m0 (q + 2) (4 * ((M + g : Nat) : Int) + (k : Int)) = (u : Int) := ⟨(m0 (q + 2) (4 * ((M + g : Nat) : Int) + (k : Int))).toNat, by omega⟩
          have hu : u < M + g := by omega
          refine K94_69 H TS_ hq ha h0 k1 b1 ⟨⟨by omega, by omega⟩, ⟨by omega, by omega⟩, by rw [e1]; exact ⟨by omega, by omega⟩, fun z => absurd z (by rw [e1]; omega), fun _ => ⟨by
            rcases e6 with e | e
            · rw [e]; exact ⟨by decide, by decide⟩
            · rw [e.1]; exact ⟨by decide, by decide⟩, fun z => ?_, fun z => ?_⟩⟩
          · refine ih m1 _ (by omega) hF1 hL1 (fun t t1 t2 ht k' hk' u hu hMu => ?_)
            by_cases y : t = M + g
            · rw [y, z] at ht
              exact absurd ht (by decide)
            · exact hC1 t (by omega) t2 ht k' hk' u hu hMu
          · obtain ⟨z0, p, hp, c, hc, hs⟩ : m1 (q + 6) ((M + g : Nat) : Int) = 0 ∧ ∃ p, Cg X q m0 (M + g) p ∧ ∃ c, c ∈ L ∧ Sub p c := by
              rcases e6 with e | e
              · exact absurd e z
              · exact e
            rw [e2, eu]
            refine ⟨⟨by omega, by omega⟩, fun μ' => Wp (d + 3) 94 (109, [some (.ref 84), some (.ref r1), some (.int (zI (L.length : Int))), some (.int (zI (M : Int))), some (.int (zI (T : Int))), some (.int (zI ((M + g : Nat) : Int))), some (.int (zI (k : Int)))], [], μ') Q, noX, ?_, fun _ z => z, fun _ _ z => z.elim⟩
            refine k_flag (Q := pV _ noX) H TS_ hq hI hM hF1 (by omega) (fun _ => ?_) (fun m2 hF2 s2 o2 st2 => ?_)
            · obtain ⟨w, ps, g1, g2, g3, g4, g5⟩ := id hp
              obtain ⟨v, v1, v2, v3⟩ := g5 k (by omega)
              have euv : v = u := by omega
              have hgd : GdC p := by
                obtain ⟨f, hf⟩ := hs
                exact Sub_g f (hg c hc) hf
              rw [g1] at hgd
              obtain ⟨_, qs, q1, _, q3, q4⟩ := GdC_u hgd
              have hpg : ∀ x, x ∈ ps → GdC x := by
                have hwf : ∀ x, x ∈ ps → ∃ f, wfS f x := fun x hx => by
                  obtain ⟨i, hi, e⟩ := mem_gD2 hx
                  obtain ⟨v', _, _, h3⟩ := g5 i hi
                  rw [e] at h3
                  exact ⟨_, CgR_wf _ _ _ h3⟩
                intro x hx
                exact ⟨hwf x hx, fun c hc => hgd.2.1 c (List.mem_cons_of_mem _ (List.mem_flatten.mpr ⟨x, hx, hc⟩)), fun c hc => hgd.2.2 c (List.mem_cons_of_mem _ (List.mem_flatten.mpr ⟨x, hx, hc⟩))⟩
              refine ⟨ps.getD k [], by rw [← euv]; exact Cg_of _ _ _ v3, c, hc, Sub_p hs ⟨w, ps, g1, hpg, gD_in (by omega)⟩⟩
            · show Wp (d + 3) 94 (109, _, [], _) Q
              refine K94_109 H TS_ hq ha h0 k1 b1 ?_
              have go := ihh (k + 1) m2 (by omega) hF2 (fun i hi u' hu' hMu' => st2 u' hMu' (by
                obtain ⟨v, v1, v2, _⟩ := hrow i hi
                rw [show (0 : Int) + (i : Int) = (i : Int) by omega] at v1
                omega) (hL1 i hi u' hu' hMu')) (fun t t1 t2 ht k' hk' u' hu' hMu' => ?_) (fun ht k' hk' u' hu' hMu' => ?_)
              · rw [show ((k + 1 : Nat) : Int) = (k : Int) + 1 by omega] at go
                exact go
              · have hlt := (hI.1.2.2.1 t t2).2.2.1 k' hk'
                exact st2 u' hMu' (by omega) (hC1 t t1 t2 (by rw [← o2 t (by omega) t2 (by omega)]; exact ht) k' hk' u' hu' hMu')
              · by_cases y : k' = k
                · rw [y, eu] at hu'
                  have : u' = u := by omega
                  rw [this]
                  exact s2 (by omega)
                · have hlt := c3 k' (by omega)
                  exact st2 u' hMu' (by omega) (hd z0 k' (by omega) u' hu' hMu')
      exact inner (m0 (q + 1) ((M + g : Nat) : Int)).toNat 0 m (by omega) hF hL hC (fun _ k' h => absurd h (Nat.not_lt_zero k'))
  -- the list's terms
  have lists : ∀ (g i : Nat) (m : PM), i + g = L.length → FlI X q m0 L M T m → (∀ j : Nat, j < i → ∀ u : Nat, m0 r1 (j : Int) = (u : Int) → M ≤ u → m (q + 6) (u : Int) = 0) → Wp (d + 3) 94 (33, [some (.ref 84), some (.ref r1), some (.int (zI (L.length : Int))), some (.int (zI (M : Int))), some (.int (zI (T : Int))), some (.int (zI (i : Int))), none], [], sA μ m l) Q := by
    intro g
    induction g with
    | zero =>
      intro i m hi hF hd
      refine K94_33 H TS_ hq ha h0 k1 b1 ⟨⟨by omega, by omega⟩, ⟨by omega, by omega⟩, fun _ => ?_, fun z => absurd (by omega) z⟩
      have go := down (T - M) m none (by omega) hF (fun j hj => hd j (by omega)) (fun t t1 t2 => absurd t1 (by omega))
      rw [show ((M + (T - M) : Nat) : Int) - 1 = (T : Int) - 1 by omega] at go
      exact go
    | succ g ih =>
      intro i m hi hF hd
      obtain ⟨u, u1, u2, u3⟩ := hrow i (by omega)
      rw [show (0 : Int) + (i : Int) = (i : Int) by omega] at u1
      have e1 : m r1 (i : Int) = (u : Int) := (hF.2 _ _ (by omega)).trans u1
      refine K94_33 H TS_ hq ha h0 k1 b1 ⟨⟨by omega, by omega⟩, ⟨by omega, by omega⟩, fun z => absurd z (by omega), fun _ => ?_⟩
      rw [e1]
      refine ⟨⟨by omega, by omega⟩, fun μ' => Wp (d + 3) 94 (48, [some (.ref 84), some (.ref r1), some (.int (zI (L.length : Int))), some (.int (zI (M : Int))), some (.int (zI (T : Int))), some (.int (zI (i : Int))), none], [], μ') Q, noX, ?_, fun _ z => z, fun _ _ z => z.elim⟩
      refine k_flag (Q := pV _ noX) H TS_ hq hI hM hF u2 (fun _ => ⟨_, u3, _, gD_in (by omega), Sub_r _⟩) (fun m2 hF2 s2 o2 st2 => ?_)
      show Wp (d + 3) 94 (48, _, [], _) Q
      refine K94_48 H TS_ hq ha h0 k1 b1 ?_
      have go := ih (i + 1) m2 (by omega) hF2 (fun j hj u' hu' hMu' => by
        by_cases y : j = i
        · rw [y, u1] at hu'
          have : u' = u := by omega
          rw [this]
          exact s2 (by omega)
        · obtain ⟨v, v1, v2, _⟩ := hrow j (by omega)
          rw [show (0 : Int) + (j : Int) = (j : Int) by omega] at v1
          exact st2 u' hMu' (by omega) (hd j (by omega) u' hu' hMu'))
      rw [show ((i + 1 : Nat) : Int) = (i : Int) + 1 by omega] at go
      exact go
  -- no flag at first
  have clear : ∀ (g t : Nat) (m : PM), t + g = T → M ≤ t → (∀ u : Nat, M ≤ u → u < t → m (q + 6) (u : Int) = -1) → (∀ c j, ¬ c = q + 6 → m c j = m0 c j) → Wp (d + 3) 94 (9, [some (.ref 84), some (.ref r1), some (.int (zI (L.length : Int))), some (.int (zI (M : Int))), some (.int (zI (T : Int))), some (.int (zI (t : Int))), none], [], sA μ m l) Q := by
    intro g
    induction g with
    | zero =>
      intro t m ht hMt hd hf
      refine K94_9 H TS_ hq ha h0 k1 b1 ⟨⟨by omega, by omega⟩, ⟨by omega, by omega⟩, fun _ => ?_, fun z => absurd (by omega) z⟩
      exact lists L.length 0 m (by omega) ⟨fun u u1 u2 => Or.inl (hd u u1 (by omega)), hf⟩ (fun j hj => absurd hj (Nat.not_lt_zero j))
    | succ g ih =>
      intro t m ht hMt hd hf
      refine K94_9 H TS_ hq ha h0 k1 b1 ⟨⟨by omega, by omega⟩, ⟨by omega, by omega⟩, fun z => absurd z (by omega), fun _ => ⟨⟨by omega, by omega⟩, fun m1 e1 => ?_⟩⟩
      have go := ih (t + 1) m1 (by omega) (by omega) (fun u u1 u2 => by
        by_cases y : u = t
        · rw [y, e1, up_s]
        · rw [e1, up_i (by omega)]
          exact hd u u1 (by omega)) (fun c j z => by rw [e1, up_c z]; exact hf c j z)
      rw [show ((t + 1 : Nat) : Int) = (t : Int) + 1 by omega] at go
      exact go
  refine K94_0 H TS_ hq ha h0 k1 b1 ?_
  rw [e9]
  exact clear (T - M) M m0 (by omega) (Nat.le_refl _) (fun u u1 u2 => absurd u2 (by omega)) (fun _ _ _ => rfl)
end CKP
