/-! ===== tables that are probed place by place: pure ===== -/
theorem php : ∀ (c N : Nat) (f : Nat → Nat), c < N → (∀ i, i < N → f i < c) → ∃ i j, i < j ∧ j < N ∧ f i = f j := by
  intro c
  induction c with
  | zero =>
    intro N f h hf
    exact absurd (hf 0 h) (by omega)
  | succ c ih =>
    intro N f h hf
    by_cases hx : ∃ i, i < N - 1 ∧ f i = f (N - 1)
    · obtain ⟨i, h1, h2⟩ := hx
      exact ⟨i, N - 1, h1, by omega, h2⟩
    · have hne : ∀ i, i < N - 1 → ¬ f i = f (N - 1) := fun i hi q => hx ⟨i, hi, q⟩
      have hv := hf (N - 1) (by omega)
      obtain ⟨i, j, h1, h2, h3⟩ := ih (N - 1) (fun i => if f i = c then f (N - 1) else f i) (by omega) (fun i hi => by
        have h4 := hf i (by omega)
        have h5 := hne i hi
        show (if f i = c then f (N - 1) else f i) < c
        by_cases q : f i = c
        · rw [if_pos q]
          omega
        · rw [if_neg q]
          omega)
      refine ⟨i, j, h1, by omega, ?_⟩
      have h6 : (if f i = c then f (N - 1) else f i) = if f j = c then f (N - 1) else f j := h3
      have a1 := hne i (by omega)
      have a2 := hne j h2
      by_cases q1 : f i = c
      · rw [if_pos q1] at h6
        by_cases q2 : f j = c
        · rw [q1, q2]
        · rw [if_neg q2] at h6
          exact absurd h6.symm a2
      · rw [if_neg q1] at h6
        by_cases q2 : f j = c
        · rw [if_pos q2] at h6
          exact absurd h6 a1
        · rw [if_neg q2] at h6
          exact h6
/-- a table of N places; entry k + 1 stands where the way from its place h k on comes to it; c entries -/
def HT (N : Nat) (S h : Nat → Nat) (c : Nat) : Prop :=
  (∀ k, k < c → ∃ m, m < N ∧ S ((h k + m) % N) = k + 1 ∧ ∀ m', m' < m → ¬ S ((h k + m') % N) = 0) ∧ (∀ i, i < N → S i ≤ c) ∧ (∀ i j, i < N → j < N → S i = S j → ¬ S i = 0 → i = j)
/-- there is a free place -/
theorem HT_free {N c : Nat} {S h : Nat → Nat} (H : HT N S h c) (hc : c < N) : ∃ i, i < N ∧ S i = 0 := by
  by_cases hx : ∃ i, i < N ∧ S i = 0
  · exact hx
  · have hne : ∀ i, i < N → ¬ S i = 0 := fun i hi q => hx ⟨i, hi, q⟩
    obtain ⟨i, j, h1, h2, h3⟩ := php c N (fun i => S i - 1) hc (fun i hi => by
      have q1 := hne i hi
      have q2 := H.2.1 i hi
      show S i - 1 < c
      omega)
    have h4 : S i - 1 = S j - 1 := h3
    have q1 := hne i (by omega)
    have q2 := hne j h2
    have := H.2.2 i j (by omega) h2 (by omega) q1
    omega
/-- the way from t on comes to a free place, and none lies before it -/
theorem HT_first {N c : Nat} {S h : Nat → Nat} (H : HT N S h c) (hc : c < N) (t : Nat) (ht : t < N) : ∃ m, m < N ∧ S ((t + m) % N) = 0 ∧ ∀ m', m' < m → ¬ S ((t + m') % N) = 0 := by
  obtain ⟨i, hi, h0⟩ := HT_free H hc
  have hex : ∃ m, m < N ∧ S ((t + m) % N) = 0 := by
    by_cases q : t ≤ i
    · refine ⟨i - t, by omega, ?_⟩
      rw [show t + (i - t) = i by omega, Nat.mod_eq_of_lt hi]
      exact h0
    · refine ⟨N - t + i, by omega, ?_⟩
      rw [show t + (N - t + i) = i + N by omega, Nat.add_mod_right, Nat.mod_eq_of_lt hi]
      exact h0
  obtain ⟨m, hm, hs⟩ := hex
  induction m using Nat.strongRecOn with
  | _ m ih =>
    by_cases hx : ∃ m', m' < m ∧ S ((t + m') % N) = 0
    · obtain ⟨m', h1, h2⟩ := hx
      exact ih m' h1 (by omega) h2
    · exact ⟨m, hm, hs, fun m' h1 h2 => hx ⟨m', h1, h2⟩⟩
/-- an entry whose way begins at t stands before the first free place of that way -/
theorem HT_before {N c : Nat} {S h : Nat → Nat} (H : HT N S h c) {t m k : Nat} (hk : k < c) (hh : h k = t) (h0 : S ((t + m) % N) = 0) : ∃ m', m' < m ∧ S ((t + m') % N) = k + 1 := by
  obtain ⟨m', h1, h2, h3⟩ := H.1 k hk
  rw [hh] at h2 h3
  refine ⟨m', ?_, h2⟩
  rcases Nat.lt_or_ge m' m with q | q
  · exact q
  · by_cases e : m = m'
    · rw [e] at h0
      rw [h0] at h2
      cases h2
    · exact absurd h0 (h3 m (by omega))
/-- a new entry at the first free place of its way -/
theorem HT_add {N c : Nat} {S h : Nat → Nat} (H : HT N S h c) {t m : Nat} (hN : 0 < N) (hm : m < N) (h0 : S ((t + m) % N) = 0) (hb : ∀ m', m' < m → ¬ S ((t + m') % N) = 0) :
    HT N (fun i => if i = (t + m) % N then c + 1 else S i) (fun k => if k = c then t else h k) (c + 1) := by
  refine ⟨fun k hk => ?_, fun i hi => ?_, fun i j hi hj e hz => ?_⟩
  · by_cases q : k = c
    · refine ⟨m, hm, ?_, fun m' h1 => ?_⟩
      · show (if ((if k = c then t else h k) + m) % N = (t + m) % N then c + 1 else _) = k + 1
        rw [if_pos q, if_pos rfl, q]
      · show ¬ (if ((if k = c then t else h k) + m') % N = (t + m) % N then c + 1 else S (((if k = c then t else h k) + m') % N)) = 0
        rw [if_pos q]
        by_cases e : (t + m') % N = (t + m) % N
        · rw [if_pos e]; omega
        · rw [if_neg e]; exact hb m' h1
    · obtain ⟨m2, g1, g2, g3⟩ := H.1 k (by omega)
      refine ⟨m2, g1, ?_, fun m' h1 => ?_⟩
      · show (if ((if k = c then t else h k) + m2) % N = (t + m) % N then c + 1 else S (((if k = c then t else h k) + m2) % N)) = k + 1
        rw [if_neg q]
        by_cases e : (h k + m2) % N = (t + m) % N
        · rw [e, h0] at g2; cases g2
        · rw [if_neg e]; exact g2
      · show ¬ (if ((if k = c then t else h k) + m') % N = (t + m) % N then c + 1 else S (((if k = c then t else h k) + m') % N)) = 0
        rw [if_neg q]
        by_cases e : (h k + m') % N = (t + m) % N
        · rw [if_pos e]; omega
        · rw [if_neg e]; exact g3 m' h1
  · show (if i = (t + m) % N then c + 1 else S i) ≤ c + 1
    by_cases e : i = (t + m) % N
    · rw [if_pos e]; exact Nat.le_refl _
    · rw [if_neg e]
      have := H.2.1 i hi
      omega
  · have e : (if i = (t + m) % N then c + 1 else S i) = if j = (t + m) % N then c + 1 else S j := e
    have hz : ¬ (if i = (t + m) % N then c + 1 else S i) = 0 := hz
    have b1 := H.2.1 i hi
    have b2 := H.2.1 j hj
    by_cases q1 : i = (t + m) % N
    · by_cases q2 : j = (t + m) % N
      · rw [q1, q2]
      · rw [if_pos q1, if_neg q2] at e
        omega
    · rw [if_neg q1] at e hz
      by_cases q2 : j = (t + m) % N
      · rw [if_pos q2] at e
        omega
      · rw [if_neg q2] at e
        exact H.2.2 i j hi hj e hz
theorem HT_0 (N : Nat) (h : Nat → Nat) : HT N (fun _ => 0) h 0 := ⟨fun k hk => absurd hk (by omega), fun _ _ => Nat.le_refl _, fun _ _ _ _ _ hz => absurd rfl hz⟩
