/-! ===== the class's names: a new name ===== -/
/-- the pool with i signs of a row put in from a place on -/
def poG (P T : Nat → Int32) (e b i : Nat) : Nat → Int32 := fun j => if e ≤ j ∧ j < e + i then T (b + (j - e)) else P j
/-- the memory with the new name -/
def inM (μ : am_Mem) (a p f s t b n c e q : Nat) : am_Mem := am_pA (am_pA (am_pA (am_wA μ p (poG (am_A μ p) (am_A μ t) e b n)) f (c + 1) (nI (e + n))) a 4 (nI (c + 1))) s q (nI (c + 1))
section INS
variable {d a p f s c t tn b n q : Nat} {μ : am_Mem} {fr : Nat → Nat} {Q : Option Value ⊕ Nat → am_Mem → Prop} {hs : Int32} {o7 : Option Value}
theorem insert_l (h : NmA μ a p f s c fr) (hap : ¬ a = p) (hfp : ¬ f = p) (htp : ¬ t = p) (ht : am_kd μ t = (5, tn)) (hb : b + n ≤ tn) (htn : tn < 2 ^ 31) (hpo : fr c + n ≤ 2058) (hch : ∀ j, j < n → (am_A μ t (b + j)).toUInt32.toUInt16.toUInt32.toInt32 = am_A μ t (b + j))
    (hq : Wp d 49 (146, [some (.ref a), some (.ref t), some (.int (nI b)), some (.int (nI n)), some (.int hs), some (.int (nI q)), some (.int (nI n)), o7], [], am_wA μ p (poG (am_A μ p) (am_A μ t) (fr c) b n)) Q) :
    ∀ m i, i + m = n → Wp d 49 (111, [some (.ref a), some (.ref t), some (.int (nI b)), some (.int (nI n)), some (.int hs), some (.int (nI q)), some (.int (nI i)), o7], [], am_wA μ p (poG (am_A μ p) (am_A μ t) (fr c) b i)) Q := by
  obtain ⟨h1, h2, h3, h4, ⟨h5, h6, h7⟩, h8, h9, h10, h11, h12, h13, h14, h15⟩ := h
  intro m
  induction m with
  | zero =>
    intro i hi
    obtain rfl : i = n := by omega
    exact b49_111 (fun _ => hq) (fun z => absurd (nI_le (Nat.le_refl i) (by omega)) z)
  | succ m ih =>
    intro i hi
    have hin : i < n := by omega
    refine b49_111 (fun z => absurd z (nI_ge hin (by omega))) (fun _ => ?_)
    have eF : am_F (am_wA μ p (poG (am_A μ p) (am_A μ t) (fr c) b i)) = am_F μ := rfl
    have eK : am_kd (am_wA μ p (poG (am_A μ p) (am_A μ t) (fr c) b i)) = am_kd μ := rfl
    have eA : am_A (am_wA μ p (poG (am_A μ p) (am_A μ t) (fr c) b i)) a 4 = nI c := by rw [rW, if_neg hap]; exact h11
    have eN : am_A (am_wA μ p (poG (am_A μ p) (am_A μ t) (fr c) b i)) f c = nI (fr c) := by rw [rW, if_neg hfp]; exact h13 c (Nat.le_refl _)
    have eT : am_A (am_wA μ p (poG (am_A μ p) (am_A μ t) (fr c) b i)) t (b + i) = am_A μ t (b + i) := by rw [rW, if_neg htp]
    refine b49_117 h1 (by rw [eF, h2]; exact h5) h1 (by rw [eF, h3]; exact h6) h1 (by rw [eF, eK, h3, h9]; exact Or.inl rfl) (by rw [eA, eF, eK, h3, h9]; exact nI_inn (by omega) (by decide)) (by rw [eK, ht]) (by rw [nI_add, eK, ht]; exact nI_inn (by omega) htn) (by rw [eF, eK, h2, h8]) (by rw [eA, nI_clamp (by omega), eF, h3, eN, nI_add, eK, h2, h8]; exact nI_inn (by omega) (by decide)) ?_
    rw [eA, nI_clamp (by omega), eF, h2, h3, eN, nI_add, nI_clamp (by omega), nI_add, nI_clamp (by omega), eT, hch i hin, wA_pA, ni1]
    have e : am_wA μ p (fun j => if j = fr c + i then am_A μ t (b + i) else poG (am_A μ p) (am_A μ t) (fr c) b i j) = am_wA μ p (poG (am_A μ p) (am_A μ t) (fr c) b (i + 1)) := by
      refine wA_ext fun j => ?_
      unfold poG
      by_cases z : j = fr c + i
      · rw [if_pos z, if_pos (by omega), show b + (j - fr c) = b + i by omega]
      · rw [if_neg z]
        by_cases z2 : fr c ≤ j ∧ j < fr c + i
        · rw [if_pos z2, if_pos (by omega)]
        · rw [if_neg z2, if_neg (by omega)]
    rw [e]
    exact ih (i + 1) (by omega)
theorem insert_e {x6 : Int32} (h : NmA μ a p f s c fr) (hc : c < 1024) (hap : ¬ a = p) (hfp : ¬ f = p) (haf : ¬ a = f) (has : ¬ a = s) (hq2 : q < 2048) (hpo : fr c + n ≤ 2058) (hq : Q (.inl (some (.int (nI c)))) (inM μ a p f s t b n c (fr c) q)) :
    Wp d 49 (146, [some (.ref a), some (.ref t), some (.int (nI b)), some (.int (nI n)), some (.int hs), some (.int (nI q)), some (.int x6), o7], [], am_wA μ p (poG (am_A μ p) (am_A μ t) (fr c) b n)) Q := by
  obtain ⟨h1, h2, h3, h4, ⟨h5, h6, h7⟩, h8, h9, h10, h11, h12, h13, h14, h15⟩ := h
  generalize hν : am_wA μ p (poG (am_A μ p) (am_A μ t) (fr c) b n) = ν
  have eF : am_F ν = am_F μ := by rw [← hν]; rfl
  have eK : am_kd ν = am_kd μ := by rw [← hν]; rfl
  have eA : am_A ν a 4 = nI c := by rw [← hν, rW, if_neg hap]; exact h11
  have eN : am_A ν f c = nI (fr c) := by rw [← hν, rW, if_neg hfp]; exact h13 c (Nat.le_refl _)
  have hk : am_kd ν a = (1, 3) := by rw [eK]; exact h1
  have hf2 : (am_kd ν (am_F ν a 2)).1 = 2 := by rw [eF, eK, h3, h9]
  have hfn : ¬ am_F ν a 2 = 15 := by rw [eF, h3]; exact h6
  refine b49_146 hk hfn hk hk hfn hk (Or.inl hf2) (by rw [eA, eF, eK, h3, h9]; exact nI_inn (by omega) (by decide)) hf2 (by rw [eA, ni1, eF, eK, h3, h9]; exact nI_inn (by omega) (by decide)) hk hk ?_
  have fF : am_F ν a 2 = f := by rw [eF]; exact h3
  have fS : am_F ν a 3 = s := by rw [eF]; exact h4
  rw [fF, eA, ni1, nI_clamp (by omega), nI_clamp (by omega), eN, nI_add]
  have e4 : am_A (am_pA ν f (c + 1) (nI (fr c + n))) a 4 = nI c := by rw [rA, if_neg (fun z => haf z.1)]; exact eA
  rw [e4, ni1]
  have e5 : am_A (am_pA (am_pA ν f (c + 1) (nI (fr c + n))) a 4 (nI (c + 1))) a 4 = nI (c + 1) := by rw [rA, if_pos ⟨rfl, rfl⟩]
  have gF : am_F (am_pA (am_pA ν f (c + 1) (nI (fr c + n))) a 4 (nI (c + 1))) a 3 = s := fS
  have gK : am_kd (am_pA (am_pA ν f (c + 1) (nI (fr c + n))) a 4 (nI (c + 1))) s = (2, 2048) := by
    show am_kd ν s = _
    rw [eK]
    exact h10
  refine b49_178 hk (by rw [gF]; exact h7) hk (by rw [gF, gK]) (by rw [gF, gK]; exact nI_inn hq2 (by decide)) hk ?_
  rw [gF, e5, nI_clamp (by omega)]
  have e6 : am_A (am_pA (am_pA (am_pA ν f (c + 1) (nI (fr c + n))) a 4 (nI (c + 1))) s q (nI (c + 1))) a 4 = nI (c + 1) := by
    rw [rA, if_neg (fun z => has z.1)]
    exact e5
  rw [e6, oI1, nI_sub (by omega)]
  rw [← hν]
  exact hq
end INS
