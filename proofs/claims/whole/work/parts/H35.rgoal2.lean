/-! ===== the reference: goalNow, jointMoves, choose ===== -/
theorem gl1_R {v c : Int} (h : 0 ≤ v) : -1 ≤ gl1 v c := by
  unfold gl1
  split <;> omega
theorem glF_R : ∀ (cs : List Int) (v : Int), -1 ≤ v → -1 ≤ glF v cs := by
  intro cs
  induction cs with
  | nil => intro v h; exact h
  | cons c cs ih =>
    intro v h
    unfold glF
    split
    · exact h
    · exact ih _ (gl1_R (by omega))
theorem glT_R (cs : List Cd) : -1 ≤ glT cs ∧ glT cs ≤ 100 := by
  unfold glT
  split
  · rename_i w
    split
    · exact ⟨by decide, by decide⟩
    · split
      · rename_i h
        exact ⟨glF_R _ _ (by decide), h⟩
      · exact ⟨by decide, by decide⟩
  · exact ⟨by decide, by decide⟩
theorem GlI_R {P : List Cd → Prop} {v : Int} (h : GlI P v) : -2 ≤ v ∧ v ≤ 100 := by
  rcases h with ⟨e, _⟩ | ⟨e, ⟨t, _, q⟩, _⟩ | ⟨e, _⟩
  · omega
  · have := glT_R t; omega
  · omega
/-- what asking for a goal writes -/
abbrev WGn (T : Nat) (c : Nat) (j : Int) : Prop := WMd T c j ∨ c = 166 ∨ c = 167 ∨ c = 176 ∨ (c = 125 ∧ j = 80)
section RGN
variable {d : Nat} {μ : am_Mem} {l : PM} {Q : Option Value ⊕ Nat → am_Mem → Prop} {T : Nat} {W : Int → Nat} {rs : List Rul} {S : List Atm}
theorem c_goalNow {m0 : PM} {L : List (List Cd)} {r : Nat} (H : RS μ) (hw0 : WkR W rs m0 T S) (hW8 : W 8 = 2) (hL : RlR m0 L) (hr : r < L.length) (hT : T + 1000 ≤ 130000)
    (hok : ∀ (m' : PM) (T' : Nat) (v : Int), T ≤ T' → T' ≤ T + (L.getD r []).length → WkR W rs m' T' S → GlI (fun t => ((wdL.getD 8 [], [L.getD r [], t]) : Atm) ∈ S) v → (∀ c j, ¬ WGn T c j → m' c j = m0 c j) → Q (.inl (some (.int (zI v)))) (sA μ m' l)) :
    Wp (d + 4) 247 (0, [some (.ref 125), some (.int (zI (r : Int))), none, none, none, none], [], sA μ m0 l) Q := by
  have hL4 := hL.2.1
  have hS1000 := hw0.2.2.2.2.1.2.1
  obtain ⟨l1, l2, l3, l4⟩ := hL.2.2.2 r hr
  refine R247_0 H ⟨fun y μ' => Wp (d + 4) 247 (5, [some (.ref 125), some (.int (zI (r : Int))), none, none, none, none], [.int y], μ') Q, noX, ?_, fun _ _ z => z, fun _ _ z => z.elim⟩
  refine c_roleTerm (d := d) (Q := pI _ noX) (T := T) (cs := L.getD r []) H (WkR_tb hw0) (by omega) l2 l3 l1 (by omega) (by omega) (fun m1 T2 ur t3 t4 b1 ur1 ur2 f1 => ?_)
  have w1 : WkR W rs m1 T2 S := WkR_up hw0 t3 b1 (fun c i z => f1 c i (by omega))
  have hx8 : nX m1 8 (wdL.getD 8 []) := ⟨by decide, by have := b1.2.2.2.2.1.2.1; omega, b1.2.2.2.2.1.2.2 8 (by decide)⟩
  have hT2 := w1.2.1.2.1
  have loop : ∀ (g k : Nat) (x4 v : Int) (o5 : Option Value), k + g = S.length → CuA S (wdL.getD 8 []) x4 k → GlI (fun t => ((wdL.getD 8 [], [L.getD r [], t]) : Atm) ∈ S.take k) v → Wp (d + 4) 247 (17, [some (.ref 125), some (.int (zI (r : Int))), some (.int (zI (ur : Int))), some (.int (zI v)), some (.int (zI x4)), o5], [], sA μ m1 l) Q := by
    intro g
    induction g using Nat.strongRecOn with
    | _ g ihg =>
      intro k x4 v o5 hk hcu hv
      have hvR := GlI_R hv
      rcases hcu with ⟨e1, e2⟩ | ⟨e1, e2, e3⟩
      · rw [e2, List.take_length] at hv
        exact R247_17 H ⟨by rw [e1]; exact ⟨by decide, by decide⟩, fun _ => hok m1 T2 v t3 t4 w1 hv (fun c j z => f1 c j z), fun z => by omega⟩
      · obtain ⟨s, t, u, w, q1, q2, q3, q4, q5, q6, q7⟩ := two_of w1 hx8 hW8 e2 e3
        have tk1 : S.take (k + 1) = S.take k ++ [(wdL.getD 8 [], [s, t])] := by rw [take_a e2, q1]
        obtain ⟨k', cu', k1, k2, c2, mm⟩ := cu_next w1 hx8 e2 e3
        rw [e1]
        refine R247_17 H ⟨⟨by omega, by omega⟩, fun z => by omega, fun _ => ⟨⟨by omega, by omega⟩, by rw [q2]; exact ⟨by omega, by omega⟩, ⟨by omega, by omega⟩, fun z => ⟨⟨fun _ => trivial, fun y => absurd (by decide) y⟩, ?_⟩, fun z => ⟨⟨by omega, by omega⟩, ?_⟩⟩⟩
        · /- another role's -/
          have hne : ¬ s = L.getD r [] := fun e => z (by
            rw [q2]
            rw [e] at q4
            rw [Tg_in b1.2.1 b1.2.2.2.2.1 q3 ur1 q4 ur2])
          rintro v1 e5
          rw [if_pos (by decide)] at e5
          rw [e5]
          refine ⟨⟨by omega, by omega⟩, ihg (S.length - k') (by omega) k' _ v _ (by omega) cu' (GlI_cg (fun t' => ?_) hv)⟩
          rw [mm, tk1, List.mem_append, List.mem_singleton]
          refine ⟨Or.inl, fun y => ?_⟩
          rcases y with y | y
          · exact y
          · exact absurd (List.cons.inj (congrArg Prod.snd y)).1.symm hne
        · have es : s = L.getD r [] := by
            have z' : m1 155 (4 * (k : Int)) = (ur : Int) := Classical.byContradiction z
            have eu : u = ur := by omega
            rw [eu] at q4
            exact TgR_fun _ _ _ _ _ q4 ur2
          rw [es] at tk1
          rw [q5]
          refine ⟨_, _, c_goalOf (d := d + 2) (l := l) H b1 q6 q7, fun y μ' hp => ?_, fun _ _ z => z.elim⟩
          obtain ⟨rfl, rfl⟩ := hp
          have hg := glT_R t
          refine R247_50 H ⟨⟨by omega, by omega⟩, ⟨fun _ => trivial, fun _ => ⟨⟨by omega, by omega⟩, trivial⟩⟩, ?_⟩
          rintro v1 e5
          refine ⟨⟨by omega, by omega⟩, ihg (S.length - k') (by omega) k' _ v1 _ (by omega) cu' (GlI_cg (fun t' => ?_) (GlI_step (t := t) hv e5))⟩
          rw [mm, tk1, List.mem_append, List.mem_singleton]
          constructor
          · rintro (y | y)
            · exact Or.inl y
            · exact Or.inr (by rw [y])
          · rintro (y | y)
            · exact Or.inl y
            · exact Or.inr (List.cons.inj (List.cons.inj (congrArg Prod.snd y)).2).1
  obtain ⟨k, cu, c0, no⟩ := cu_first w1 hx8
  have hkS : k ≤ S.length := by
    rcases cu with ⟨_, e⟩ | ⟨_, e, _⟩
    · omega
    · omega
  exact R247_5 H (loop (S.length - k) k _ (-1) none (by omega) cu (Or.inl ⟨rfl, fun t z => absurd z (no _)⟩))
theorem c_jointMoves {m : PM} {n : Nat} {mv : Nat → List (List Cd)} (H : RS μ) (h70 : m 125 70 = (n : Int)) (hn : n ≤ 4) (hmv : ∀ r, r < n → m 173 (r : Int) = ((mv r).length : Int) ∧ (mv r).length ≤ 1000) : Wp d 250 (0, [some (.ref 125), none, none, none], [], sA μ m l) (pL (fun y μ' => y = zL (jmN n mv : Int) ∧ μ' = sA μ m l) noX) := by
  have loop : ∀ (f r : Nat) (y : Nat), r + f = n → (n = 0 → y = 0) → (¬ n = 0 → y = jmP mv r) → Wp d 250 (15, [some (.ref 125), some (.long (zL (y : Int))), none, some (.int (zI (r : Int)))], [], sA μ m l) (pL (fun y μ' => y = zL (jmN n mv : Int) ∧ μ' = sA μ m l) noX) := by
    intro f
    induction f with
    | zero =>
      intro r y hr h0 h1
      have er : r = n := by omega
      refine R250_15 H ⟨⟨by omega, by omega⟩, by rw [h70]; exact ⟨by omega, by omega⟩, fun _ => ⟨?_, rfl⟩, fun z => absurd (by omega) z⟩
      unfold jmN
      by_cases z : n = 0
      · rw [if_pos z, h0 z]
      · rw [if_neg z, h1 z, er]
    | succ f ih =>
      intro r y hr h0 h1
      obtain ⟨a1, a2⟩ := hmv r (by omega)
      refine R250_15 H ⟨⟨by omega, by omega⟩, by rw [h70]; exact ⟨by omega, by omega⟩, fun z => by omega, fun _ => ⟨⟨by omega, by omega⟩, by rw [a1]; exact ⟨by omega, by omega⟩, ?_⟩⟩
      rw [a1]
      have go := ih (r + 1) (y * (mv r).length) (by omega) (fun z => by omega) (fun z => by rw [h1 z]; rfl)
      rw [Int.natCast_mul, show ((r + 1 : Nat) : Int) = (r : Int) + 1 by omega] at go
      exact go
  refine R250_0 H ⟨by rw [h70]; exact ⟨by omega, by omega⟩, fun z => ?_, fun z => ?_⟩
  · exact loop n 0 1 (by omega) (fun y => absurd (by rw [h70, y]; rfl) z) (fun _ => rfl)
  · have e : n = 0 := by
      have := Classical.byContradiction z
      omega
    exact loop n 0 0 (by omega) (fun _ => rfl) (fun y => absurd e y)
theorem c_choose {m : PM} {n j : Nat} {mv : Nat → List (List Cd)} (H : RS μ) (h70 : m 125 70 = (n : Int)) (hn : n ≤ 4) (hmv : ∀ r, r < n → m 173 (r : Int) = ((mv r).length : Int) ∧ (mv r).length ≤ 1000 ∧ 0 < (mv r).length) (hj : j ≤ 9000000000000000000) : Wp d 251 (0, [some (.ref 125), some (.long (zL (j : Int))), none, none, none, none], [], sA μ m l) (pV (fun μ' => ∃ m', μ' = sA μ m' l ∧ (∀ r, r < n → m' 175 (r : Int) = (chI mv n j r : Int)) ∧ ∀ c i, ¬ (c = 175 ∧ 0 ≤ i ∧ i < (n : Int)) → m' c i = m c i) noX) := by
  have loop : ∀ (k : Nat) (j' : Nat) (m1 : PM), k ≤ n → j' ≤ 9000000000000000000 → (∀ r, k ≤ r → r < n → m1 175 (r : Int) = (chI mv n j r : Int)) → (∀ r, r < k → chI mv n j r = chI mv k j' r) → (∀ c i, ¬ (c = 175 ∧ 0 ≤ i ∧ i < (n : Int)) → m1 c i = m c i) → Wp d 251 (10, [some (.ref 125), some (.long (zL (j : Int))), none, some (.long (zL (j' : Int))), none, some (.int (zI ((k : Int) - 1)))], [], sA μ m1 l) (pV (fun μ' => ∃ m', μ' = sA μ m' l ∧ (∀ r, r < n → m' 175 (r : Int) = (chI mv n j r : Int)) ∧ ∀ c i, ¬ (c = 175 ∧ 0 ≤ i ∧ i < (n : Int)) → m' c i = m c i) noX) := by
    intro k
    induction k with
    | zero =>
      intro j' m1 hk hj' h1 h2 fr
      exact R251_10 H ⟨⟨by omega, by omega⟩, fun _ => ⟨m1, rfl, fun r hr => h1 r (Nat.zero_le _) hr, fr⟩, fun z => absurd (by omega) z⟩
    | succ k ih =>
      intro j' m1 hk hj' h1 h2 fr
      rw [show ((k + 1 : Nat) : Int) - 1 = (k : Int) by omega]
      obtain ⟨a1, a2, a3⟩ := hmv k (by omega)
      have e3 : m1 173 (k : Int) = ((mv k).length : Int) := by rw [fr _ _ (by omega)]; exact a1
      refine R251_10 H ⟨⟨by omega, by omega⟩, fun z => by omega, fun _ => ⟨⟨by omega, by omega⟩, by rw [e3]; exact ⟨by omega, by omega⟩, by rw [e3]; omega, by rw [e3]; exact ⟨by omega, by omega⟩, ?_⟩⟩
      rw [e3, zLDiv_n ⟨by omega, by omega⟩ ⟨by omega, by omega⟩]
      rintro m2 e2
      have ed : (j' : Int) / ((mv k).length : Int) = ((j' / (mv k).length : Nat) : Int) := (Int.natCast_ediv _ _).symm
      have em : (j' : Int) - ((j' / (mv k).length : Nat) : Int) * ((mv k).length : Int) = ((j' % (mv k).length : Nat) : Int) := by
        have h := Nat.div_add_mod j' (mv k).length
        have h2 : ((mv k).length * (j' / (mv k).length) + j' % (mv k).length : Nat) = (j' : Int) := by rw [h]
        rw [Int.natCast_add, Int.natCast_mul, Int.mul_comm] at h2
        omega
      rw [ed] at e2 ⊢
      rw [em] at e2
      have hc : ∀ r, r < k → chI mv (k + 1) j' r = chI mv k (j' / (mv k).length) r := fun r hr => if_neg (by omega)
      refine ih (j' / (mv k).length) m2 (by omega) (Nat.le_trans (Nat.div_le_self _ _) hj') (fun r r1 r2 => ?_) (fun r hr => by rw [h2 r (by omega)]; exact hc r hr) (fun c i z => by rw [e2, up_o (by omega)]; exact fr c i z)
      by_cases y : r = k
      · rw [y, e2, up_s, h2 k (by omega)]
        have : chI mv (k + 1) j' k = j' % (mv k).length := if_pos rfl
        rw [this]
      · rw [e2, up_i (by omega)]
        exact h1 r (by omega) r2
  refine R251_0 H ?_
  rw [h70]
  exact loop n j m (Nat.le_refl _) hj (fun r r1 r2 => by omega) (fun _ _ => rfl) (fun _ _ _ => rfl)
end RGN

theorem GlI_ex (P : List Cd → Prop) : ∃ v, GlI P v := by
  by_cases h : ∃ t, P t ∧ 0 ≤ glT t
  · obtain ⟨t, p, q⟩ := h
    by_cases h2 : ∃ s, P s ∧ 0 ≤ glT s ∧ ¬ glT s = glT t
    · obtain ⟨s, a, b, c⟩ := h2
      exact ⟨-2, Or.inr (Or.inr ⟨rfl, s, t, a, p, b, q, c⟩)⟩
    · refine ⟨glT t, Or.inr (Or.inl ⟨q, ⟨t, p, rfl⟩, fun s hs => ?_⟩)⟩
      by_cases z : glT s < 0
      · exact Or.inl z
      · exact Or.inr (Classical.byContradiction fun y => h2 ⟨s, hs, by omega, y⟩)
  · exact ⟨-1, Or.inl ⟨rfl, fun t ht => Classical.byContradiction fun z => h ⟨t, ht, by omega⟩⟩⟩
