/-! ===== the words' text: length, toCharArray ===== -/
theorem ni1 (i : Nat) : nI i + Int32.ofInt 1 = nI (i + 1) := by
  rw [nI_succ]
  rfl
theorem nI_inn {i n : Nat} (h : i < n) (hn : n < 2 ^ 31) : ¬ (nI i < 0 ∨ n ≤ (nI i).toNatClampNeg) := by
  rw [nI_clamp (by omega)]
  rintro (q | q)
  · exact nI_pos (by omega) q
  · omega
theorem mmod_last {α : Type} : ∀ (T : List α) (c : α) (f : α → α), mmod (T ++ [c]) T.length f = T ++ [f c] := by
  intro T
  induction T with
  | nil => intro c f; rfl
  | cons a l ih => intro c f; simp [mmod, ih]
section CHS
variable {L : Nat} {xs : Nat → Int32} {sl d n : Nat} {T : List mC}
theorem mT_kdl {c : mC} (hn : n = 16 + T.length) {m : Nat} : am_kd (mT L xs m (T ++ [c]) sl) n = (c.1, c.2.1) := by
  show (if n < 16 then _ else mTk _ (n - 16)) = _
  rw [if_neg (by omega)]
  unfold mTk
  rw [am_nth_app, if_pos (by omega)]
theorem wrd_ok : ∀ i, i < 58 → ((((am_wrdL.getD i 0 &&& (Int16.ofInt 255).toInt32).toUInt32 % 65536).toInt32).toUInt32.toUInt16.toUInt32.toInt32) = am_wrdL.getD i 0 := by decide +kernel
theorem wrd_ms : ∀ i, i < 58 → ms 0 (am_wrdL.take i) i (am_wrdL.getD i 0) = am_wrdL.take (i + 1) := by decide +kernel
theorem inf_loop (hn : n = 16 + T.length) : ∀ m i, i + m = 58 → Wp d 289 (3, [some (.ref 3), some (.int (nI i)), some (.ref n), some (.int (nI i)), some (.int (nI 58)), some (.int (nI i))], [], mT L xs (n + 1) (T ++ [(5, 58, am_wrdL.take i, [], [])]) sl) (pV (fun μ' => μ' = mT L xs (n + 1) (T ++ [(5, 58, am_wrdL, [], [])]) sl) noX) := by
  intro m
  induction m with
  | zero =>
    intro i hi
    obtain rfl : i = 58 := by omega
    refine b289_3 (fun _ => b289_33 ?_) (fun h => absurd (nI_le (Nat.le_refl 58) (by decide)) h)
    rfl
  | succ m ih =>
    intro i hi
    have hi58 : i < 58 := by omega
    refine b289_3 (fun h => absurd h (nI_ge hi58 (by decide))) (fun _ => ?_)
    have hin : ¬ (nI i < 0 ∨ 58 ≤ (nI i).toNatClampNeg) := nI_inn hi58 (by decide)
    refine b289_10 (Or.inr (Or.inr rfl)) hin (by rw [mT_kdl hn]) (by rw [mT_kdl hn]; exact hin) ?_
    have e1 : am_A (mT L xs (n + 1) (T ++ [(5, 58, am_wrdL.take i, [], [])]) sl) 3 (nI i).toNatClampNeg = am_wrdL.getD i 0 := by
      rw [nI_clamp (by omega)]
      rfl
    rw [e1, wrd_ok i hi58, nI_clamp (by omega), mT_pA (by omega) ⟨_, by rw [am_nth_app, if_pos (by omega)]⟩, show n - 16 = T.length by omega, mmod_last, ni1]
    show Wp d 289 (3, _, [], mT L xs (n + 1) (T ++ [(5, 58, ms 0 (am_wrdL.take i) i (am_wrdL.getD i 0), [], [])]) sl) _
    rw [wrd_ms i hi58]
    exact ih (i + 1) (by omega)
theorem c_toChars (hn : n = 16 + T.length) : Wp (d + 1) 288 (0, [some (.ref 3), none], [], mT L xs n T sl) (pR (fun r μ' => r = n ∧ μ' = mT L xs (n + 1) (T ++ [(5, 58, am_wrdL, [], [])]) (sl + 58)) noX) := by
  have hk : ∀ ν : am_Mem, ν = mT L xs n T sl → am_kd ν 3 = (10, 58) := fun ν h => by rw [h]; rfl
  have e58 : (Int32.ofNat 58).toNatClampNeg = 58 := by decide
  refine b288_0 (P := fun μ' => μ' = mT L xs (n + 1) (T ++ [(5, 58, am_wrdL, [], [])]) (sl + 58)) (X := noX) ⟨by rw [hk _ rfl]; decide, by rw [hk _ rfl]; decide, by rw [hk _ rfl]; decide⟩ ?_ ?_ ?_ ?_ (fun x μ' h => h.elim)
  · rw [hk _ rfl]
    exact ⟨by decide, by decide⟩
  · rw [hk _ rfl, mT_nA hn]
    have e : am_kd (mT L xs (n + 1) (T ++ [(5, (Int32.ofNat 58).toNatClampNeg, [], [], [])]) (sl + (Int32.ofNat 58).toNatClampNeg)) 3 = (10, 58) := rfl
    rw [e]
    exact ⟨by decide, by decide, by decide⟩
  · rw [hk _ rfl, mT_nA hn]
    have e : am_kd (mT L xs (n + 1) (T ++ [(5, (Int32.ofNat 58).toNatClampNeg, [], [], [])]) (sl + (Int32.ofNat 58).toNatClampNeg)) 3 = (10, 58) := rfl
    rw [e]
    rw [e58]
    exact b289_0 (inf_loop (i := 0) hn 58 rfl)
  · intro μ' h
    exact b288_14 ⟨rfl, h⟩
theorem c_toCharArray (hn : n = 16 + T.length) : Wp (d + 2) 284 (0, [some (.ref 2)], [], mT L xs n T sl) (pR (fun r μ' => r = n ∧ μ' = mT L xs (n + 1) (T ++ [(5, 58, am_wrdL, [], [])]) (sl + 58)) noX) := by
  refine b284_0 (P := fun x μ' => x = Int32.ofInt 1 ∧ μ' = mT L xs n T sl) (X := noX) ?_ ?_ (fun x μ' h => h.elim)
  · refine b285_0 (fun h => absurd h (by decide)) (fun _ => b285_6 (fun h => absurd rfl h) (fun _ => b285_13 (b285_18 (by decide) ⟨rfl, rfl⟩)))
  · rintro x μ' ⟨rfl, rfl⟩
    refine b284_4 (fun h => absurd h (by decide)) (fun _ => ?_)
    refine b284_7 (X := noX) (c_toChars hn) ?_ (fun x μ' h => h.elim)
    rintro x μ' ⟨rfl, rfl⟩
    exact b284_14 (b284_24 ⟨rfl, rfl⟩)
theorem c_length : Wp (d + 1) 286 (0, [some (.ref 2)], [], mT L xs n T sl) (pI (fun x μ' => x = nI 58 ∧ μ' = mT L xs n T sl) noX) := by
  have hk : am_kd (mT L xs n T sl) 3 = (10, 58) := rfl
  refine b286_0 (P := fun x μ' => x = 0 ∧ μ' = mT L xs n T sl) (X := noX) (by rw [hk]; decide) ?_ ?_ (fun x μ' h => h.elim)
  · exact b287_0 (fun h => absurd h (by decide)) (fun _ => b287_6 (b287_14 (by decide) ⟨rfl, rfl⟩))
  · rintro x μ' ⟨rfl, rfl⟩
    rw [hk]
    refine b286_9 ⟨?_, rfl⟩
    decide
end CHS
