/-! ===== a table probed place by place, of which the latest entry can be dropped ===== -/
def HC (N : Nat) (S h : Nat → Nat) (c : Nat) : Prop :=
  (∀ k, k < c → ∃ m, m < N ∧ S ((h k + m) % N) = k + 1 ∧ ∀ m', m' < m → ¬ S ((h k + m') % N) = 0 ∧ S ((h k + m') % N) ≤ k) ∧ (∀ i, i < N → S i ≤ c) ∧ (∀ i j, i < N → j < N → S i = S j → ¬ S i = 0 → i = j)
theorem HC_ht {N c : Nat} {S h : Nat → Nat} (H : HC N S h c) : HT N S h c := ⟨fun k hk => by
  obtain ⟨m, h1, h2, h3⟩ := H.1 k hk
  exact ⟨m, h1, h2, fun m' hm => (h3 m' hm).1⟩, H.2⟩
theorem HC_0 (N : Nat) (S h : Nat → Nat) (hS : ∀ i, i < N → S i = 0) : HC N S h 0 := ⟨fun k hk => absurd hk (by omega), fun i hi => by rw [hS i hi]; exact Nat.le_refl _, fun i _ hi _ _ hz => absurd (hS i hi) hz⟩
theorem HC_cg {N c : Nat} {S S' h h' : Nat → Nat} (hN : 0 < N) (eS : ∀ i, i < N → S i = S' i) (eh : ∀ k, k < c → h k = h' k) (H : HC N S h c) : HC N S' h' c := by
  have e : ∀ x, S (x % N) = S' (x % N) := fun x => eS _ (Nat.mod_lt _ hN)
  refine ⟨fun k hk => ?_, fun i hi => by rw [← eS i hi]; exact H.2.1 i hi, fun i j hi hj z hz => ?_⟩
  · obtain ⟨m, h1, h2, h3⟩ := H.1 k hk
    refine ⟨m, h1, by rw [← eh k hk, ← e]; exact h2, fun m' hm => ?_⟩
    rw [← eh k hk, ← e]
    exact h3 m' hm
  · rw [← eS i hi, ← eS j hj] at z
    rw [← eS i hi] at hz
    exact H.2.2 i j hi hj z hz
/-- a new entry at the first free place of its way -/
theorem HC_add {N c : Nat} {S h : Nat → Nat} (H : HC N S h c) {t m : Nat} (hN : 0 < N) (hm : m < N) (h0 : S ((t + m) % N) = 0) (hb : ∀ m', m' < m → ¬ S ((t + m') % N) = 0) :
    HC N (fun i => if i = (t + m) % N then c + 1 else S i) (fun k => if k = c then t else h k) (c + 1) := by
  have H' := HT_add (HC_ht H) (t := t) hN hm h0 hb
  refine ⟨fun k hk => ?_, H'.2⟩
  by_cases q : k = c
  · refine ⟨m, hm, ?_, fun m' h1 => ?_⟩
    · show (if ((if k = c then t else h k) + m) % N = (t + m) % N then c + 1 else _) = k + 1
      rw [if_pos q, if_pos rfl, q]
    · show ¬ (if ((if k = c then t else h k) + m') % N = (t + m) % N then c + 1 else S (((if k = c then t else h k) + m') % N)) = 0 ∧ (if ((if k = c then t else h k) + m') % N = (t + m) % N then c + 1 else S (((if k = c then t else h k) + m') % N)) ≤ k
      rw [if_pos q]
      have e : ¬ (t + m') % N = (t + m) % N := fun e => hb m' h1 (by rw [e]; exact h0)
      rw [if_neg e]
      exact ⟨hb m' h1, by rw [q]; exact H.2.1 _ (Nat.mod_lt _ hN)⟩
  · obtain ⟨m2, g1, g2, g3⟩ := H.1 k (by omega)
    refine ⟨m2, g1, ?_, fun m' h1 => ?_⟩
    · show (if ((if k = c then t else h k) + m2) % N = (t + m) % N then c + 1 else S (((if k = c then t else h k) + m2) % N)) = k + 1
      rw [if_neg q]
      by_cases e : (h k + m2) % N = (t + m) % N
      · rw [e, h0] at g2; cases g2
      · rw [if_neg e]; exact g2
    · show ¬ (if ((if k = c then t else h k) + m') % N = (t + m) % N then c + 1 else S (((if k = c then t else h k) + m') % N)) = 0 ∧ (if ((if k = c then t else h k) + m') % N = (t + m) % N then c + 1 else S (((if k = c then t else h k) + m') % N)) ≤ k
      rw [if_neg q]
      have e : ¬ (h k + m') % N = (t + m) % N := fun e => (g3 m' h1).1 (by rw [e]; exact h0)
      rw [if_neg e]
      exact g3 m' h1
/-- the latest entry is dropped -/
theorem HC_cut {N c p : Nat} {S h : Nat → Nat} (hN : 0 < N) (H : HC N S h (c + 1)) (hp : p < N) (e : S p = c + 1) : HC N (fun i => if i = p then 0 else S i) h c := by
  have ne : ∀ x, S (x % N) ≤ c → ¬ x % N = p := fun x h z => by rw [z, e] at h; omega
  refine ⟨fun k hk => ?_, fun i hi => ?_, fun i j hi hj z hz => ?_⟩
  · obtain ⟨m, h1, h2, h3⟩ := H.1 k (by omega)
    refine ⟨m, h1, ?_, fun m' hm => ?_⟩
    · show (if (h k + m) % N = p then 0 else S ((h k + m) % N)) = k + 1
      rw [if_neg (ne _ (by omega))]
      exact h2
    · have h4 := h3 m' hm
      show ¬ (if (h k + m') % N = p then 0 else S ((h k + m') % N)) = 0 ∧ (if (h k + m') % N = p then 0 else S ((h k + m') % N)) ≤ k
      rw [if_neg (ne _ (by omega))]
      exact h4
  · show (if i = p then 0 else S i) ≤ c
    by_cases q : i = p
    · rw [if_pos q]; omega
    · rw [if_neg q]
      have h1 := H.2.1 i hi
      by_cases y : S i = c + 1
      · exact absurd (H.2.2 i p hi hp (by rw [y, e]) (by omega)) q
      · omega
  · have z : (if i = p then 0 else S i) = if j = p then 0 else S j := z
    have hz : ¬ (if i = p then 0 else S i) = 0 := hz
    by_cases q : i = p
    · rw [if_pos q] at hz; exact absurd rfl hz
    · rw [if_neg q] at z hz
      by_cases q2 : j = p
      · rw [if_pos q2] at z; exact absurd z hz
      · rw [if_neg q2] at z
        exact H.2.2 i j hi hj z hz
