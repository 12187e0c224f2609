/-! ===== the class's names: intern ===== -/
theorem HT_congr {N c : Nat} {S S' h h' : Nat → Nat} (hN : 0 < N) (eS : ∀ i, i < N → S i = S' i) (eh : ∀ k, k < c → h k = h' k) (H : HT N S h c) : HT N S' h' c := by
  have e : ∀ x, S (x % N) = S' (x % N) := fun x => eS _ (Nat.mod_lt _ hN)
  refine ⟨fun k hk => ?_, fun i hi => ?_, fun i j hi hj q z => ?_⟩
  · obtain ⟨m, h1, h2, h3⟩ := H.1 k hk
    refine ⟨m, h1, ?_, fun m' hm => ?_⟩
    · rw [← eh k hk, ← e]; exact h2
    · rw [← eh k hk, ← e]; exact h3 m' hm
  · rw [← eS i hi]; exact H.2.1 i hi
  · rw [← eS i hi, ← eS j hj] at q
    rw [← eS i hi] at z
    exact H.2.2 i j hi hj q z
section CIN
variable {d a p f s c t tn b n : Nat} {μ : am_Mem} {fr : Nat → Nat}
/-- how the signs of a new name are found again -/
theorem is_place {k t0 : Nat} (ht0 : nmP (fun j => am_A μ t (b + j)) n = nI t0) (h0 : t0 < 2048) (h : NmIs μ p fr k t b n) : (nmP (fun j => am_A μ p (fr k + j)) (fr (k + 1) - fr k)).toNatClampNeg = t0 := by
  have e : nmP (fun j => am_A μ p (fr k + j)) (fr (k + 1) - fr k) = nmP (fun j => am_A μ t (b + j)) n := by
    rw [h.1]
    unfold nmP
    rw [nmS_eq n (fun j hj => h.2 j hj)]
  rw [e, ht0, nI_clamp (by omega)]
theorem c_intern0 {Q : Option Value ⊕ Nat → am_Mem → Prop} (h : NmI μ a p f s c fr) (hc : c < 1024) (hap : ¬ a = p) (hfp : ¬ f = p) (haf : ¬ a = f) (has : ¬ a = s) (htp : ¬ t = p) (ht : am_kd μ t = (5, tn)) (hb : b + n ≤ tn) (htn : tn < 2 ^ 31) (hpo : fr c + n ≤ 2058) (hch : ∀ j, j < n → (am_A μ t (b + j)).toUInt32.toUInt16.toUInt32.toInt32 = am_A μ t (b + j))
    (hfound : ∀ k, k < c → NmIs μ p fr k t b n → Q (.inl (some (.int (nI k)))) μ)
    (hnew : (∀ k, k < c → ¬ NmIs μ p fr k t b n) → ∀ t0 m, t0 < 2048 → m < 2048 → nmP (fun j => am_A μ t (b + j)) n = nI t0 → (am_A μ s ((t0 + m) % 2048)).toNatClampNeg = 0 → (∀ m', m' < m → ¬ (am_A μ s ((t0 + m') % 2048)).toNatClampNeg = 0) → Q (.inl (some (.int (nI c)))) (inM μ a p f s t b n c (fr c) ((t0 + m) % 2048))) :
    Wp (d + 2) 49 (0, [some (.ref a), some (.ref t), some (.int (nI b)), some (.int (nI n)), none, none, none, none], [], μ) Q := by
  obtain ⟨t0, h0, et⟩ := nmP_lt (fun j => am_A μ t (b + j)) n
  obtain ⟨m, hm, hz, hnz⟩ := HT_first h.2.2 (by omega) t0 h0
  refine intern_0 ht hb htn ?_
  rw [et]
  have e0 : nI t0 = nI ((t0 + 0) % 2048) := by rw [Nat.add_zero, Nat.mod_eq_of_lt h0]
  rw [e0]
  refine intern_w h hc ht hb htn h0 hm hz hnz hfound (fun hno o7 => ?_) m 0 none (by omega) (fun m' hm' => absurd hm' (by omega))
  have hall : ∀ k, k < c → ¬ NmIs μ p fr k t b n := by
    intro k hk his
    obtain ⟨m', g1, g2⟩ := HT_before h.2.2 hk (is_place et h0 his) hz
    exact hno m' g1 k g2 his
  refine b49_108 ?_
  have e : am_wA μ p (poG (am_A μ p) (am_A μ t) (fr c) b 0) = μ := by
    have : am_wA μ p (poG (am_A μ p) (am_A μ t) (fr c) b 0) = am_wA μ p (am_A μ p) := wA_ext fun j => if_neg (by omega)
    rw [this, wA_id]
  have hl := insert_l (d := d + 2) (Q := Q) (hs := nmS (fun j => am_A μ t (b + j)) n) (o7 := o7) (q := (t0 + m) % 2048) h.1 hap hfp htp ht hb htn hpo hch (insert_e h.1 hc hap hfp haf has (Nat.mod_lt _ (by omega)) hpo (hnew hall t0 m h0 hm et hz hnz)) n 0 (by omega)
  rw [e] at hl
  exact hl
end CIN
