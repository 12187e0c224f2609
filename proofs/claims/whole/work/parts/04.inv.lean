/-! ===== what a step of the small machine was ===== -/
section AMI
variable {pc pc' len i nL : Nat} {lv lv' : List (Option Value)} {st st' : List Value} {μ μ' : am_Mem}
theorem am_nx_inv (h : am_nx pc lv st μ = some (.inl (pc', lv', st', μ'))) : pc = pc' ∧ lv = lv' ∧ st = st' ∧ μ = μ' := by
  unfold am_nx at h
  injection h with h
  injection h with h
  injection h with h1 h
  injection h with h2 h
  injection h with h3 h4
  exact ⟨h1, h2, h3, h4⟩
theorem am_i2_inv {f : Int32 → Int32 → Int32} (h : am_i2 f pc lv st μ = some (.inl (pc', lv', st', μ'))) : ∃ x y rest, st = .int y :: .int x :: rest ∧ pc + 1 = pc' ∧ lv = lv' ∧ .int (f x y) :: rest = st' ∧ μ = μ' := by
  unfold am_i2 at h
  split at h
  · exact ⟨_, _, _, rfl, am_nx_inv h⟩
  · cases h
theorem am_i2z_inv {f : Int32 → Int32 → Int32} (h : am_i2z f pc lv st μ = some (.inl (pc', lv', st', μ'))) : ∃ x y rest, st = .int y :: .int x :: rest ∧ ¬ y = 0 ∧ pc + 1 = pc' ∧ lv = lv' ∧ .int (f x y) :: rest = st' ∧ μ = μ' := by
  unfold am_i2z at h
  split at h
  · split at h
    · cases h
    · rename_i hz
      exact ⟨_, _, _, rfl, hz, am_nx_inv h⟩
  · cases h
theorem am_l2_inv {f : Int64 → Int64 → Int64} (h : am_l2 f pc lv st μ = some (.inl (pc', lv', st', μ'))) : ∃ x y rest, st = .long y :: .long x :: rest ∧ pc + 1 = pc' ∧ lv = lv' ∧ .long (f x y) :: rest = st' ∧ μ = μ' := by
  unfold am_l2 at h
  split at h
  · exact ⟨_, _, _, rfl, am_nx_inv h⟩
  · cases h
theorem am_l2z_inv {f : Int64 → Int64 → Int64} (h : am_l2z f pc lv st μ = some (.inl (pc', lv', st', μ'))) : ∃ x y rest, st = .long y :: .long x :: rest ∧ ¬ y = 0 ∧ pc + 1 = pc' ∧ lv = lv' ∧ .long (f x y) :: rest = st' ∧ μ = μ' := by
  unfold am_l2z at h
  split at h
  · split at h
    · cases h
    · rename_i hz
      exact ⟨_, _, _, rfl, hz, am_nx_inv h⟩
  · cases h
theorem am_lsh_inv {f : Int64 → Int32 → Int64} (h : am_lsh f pc lv st μ = some (.inl (pc', lv', st', μ'))) : ∃ x y rest, st = .int y :: .long x :: rest ∧ pc + 1 = pc' ∧ lv = lv' ∧ .long (f x y) :: rest = st' ∧ μ = μ' := by
  unfold am_lsh at h
  split at h
  · exact ⟨_, _, _, rfl, am_nx_inv h⟩
  · cases h
theorem am_i1_inv {f : Int32 → Value} (h : am_i1 f pc lv st μ = some (.inl (pc', lv', st', μ'))) : ∃ x rest, st = .int x :: rest ∧ pc + 1 = pc' ∧ lv = lv' ∧ f x :: rest = st' ∧ μ = μ' := by
  unfold am_i1 at h
  split at h
  · exact ⟨_, _, rfl, am_nx_inv h⟩
  · cases h
theorem am_ild_inv (h : am_ild len i pc lv st μ = some (.inl (pc', lv', st', μ'))) : ∃ x, am_lget lv i = some (.int x) ∧ pc + len = pc' ∧ lv = lv' ∧ .int x :: st = st' ∧ μ = μ' := by
  unfold am_ild at h
  split at h
  · rename_i x hx
    exact ⟨x, hx, am_nx_inv h⟩
  · cases h
theorem am_lld_inv (h : am_lld len i pc lv st μ = some (.inl (pc', lv', st', μ'))) : ∃ x, am_lget lv i = some (.long x) ∧ pc + len = pc' ∧ lv = lv' ∧ .long x :: st = st' ∧ μ = μ' := by
  unfold am_lld at h
  split at h
  · rename_i x hx
    exact ⟨x, hx, am_nx_inv h⟩
  · cases h
theorem am_ald_inv (h : am_ald len i pc lv st μ = some (.inl (pc', lv', st', μ'))) : ∃ x, am_lget lv i = some (.ref x) ∧ pc + len = pc' ∧ lv = lv' ∧ .ref x :: st = st' ∧ μ = μ' := by
  unfold am_ald at h
  split at h
  · rename_i x hx
    exact ⟨x, hx, am_nx_inv h⟩
  · cases h
theorem am_ist_inv (h : am_ist nL len i pc lv st μ = some (.inl (pc', lv', st', μ'))) : ∃ x rest, st = .int x :: rest ∧ i < nL ∧ pc + len = pc' ∧ am_set1 lv i (.int x) = lv' ∧ rest = st' ∧ μ = μ' := by
  unfold am_ist at h
  split at h
  · split at h
    · rename_i hi
      exact ⟨_, _, rfl, hi, am_nx_inv h⟩
    · cases h
  · cases h
theorem am_lst_inv (h : am_lst nL len i pc lv st μ = some (.inl (pc', lv', st', μ'))) : ∃ x rest, st = .long x :: rest ∧ i + 1 < nL ∧ pc + len = pc' ∧ am_set2 lv i (.long x) = lv' ∧ rest = st' ∧ μ = μ' := by
  unfold am_lst at h
  split at h
  · split at h
    · rename_i hi
      exact ⟨_, _, rfl, hi, am_nx_inv h⟩
    · cases h
  · cases h
theorem am_ast_inv (h : am_ast nL len i pc lv st μ = some (.inl (pc', lv', st', μ'))) : ∃ x rest, st = .ref x :: rest ∧ i < nL ∧ pc + len = pc' ∧ am_set1 lv i (.ref x) = lv' ∧ rest = st' ∧ μ = μ' := by
  unfold am_ast at h
  split at h
  · split at h
    · rename_i hi
      exact ⟨_, _, rfl, hi, am_nx_inv h⟩
    · cases h
  · cases h
theorem am_xld_inv {t1 t2 t3 : Nat} (h : am_xld t1 t2 t3 pc lv st μ = some (.inl (pc', lv', st', μ'))) : ∃ j a rest, st = .int j :: .ref a :: rest ∧ ((am_kd μ a).1 = t1 ∨ (am_kd μ a).1 = t2 ∨ (am_kd μ a).1 = t3) ∧ ¬ (j < 0 ∨ (am_kd μ a).2 ≤ j.toNatClampNeg) ∧ pc + 1 = pc' ∧ lv = lv' ∧ .int (am_A μ a j.toNatClampNeg) :: rest = st' ∧ μ = μ' := by
  unfold am_xld at h
  split at h
  · split at h
    · rename_i hi
      exact ⟨_, _, _, rfl, hi.1, hi.2, am_nx_inv h⟩
    · cases h
  · cases h
theorem am_xll_inv (h : am_xll pc lv st μ = some (.inl (pc', lv', st', μ'))) : ∃ j a rest, st = .int j :: .ref a :: rest ∧ (am_kd μ a).1 = 6 ∧ ¬ (j < 0 ∨ (am_kd μ a).2 ≤ j.toNatClampNeg) ∧ pc + 1 = pc' ∧ lv = lv' ∧ .long (am_L μ a j.toNatClampNeg) :: rest = st' ∧ μ = μ' := by
  unfold am_xll at h
  split at h
  · split at h
    · rename_i hi
      exact ⟨_, _, _, rfl, hi.1, hi.2, am_nx_inv h⟩
    · cases h
  · cases h
theorem am_xst_inv {t1 t2 : Nat} (h : am_xst t1 t2 pc lv st μ = some (.inl (pc', lv', st', μ'))) : ∃ x j a rest, st = .int x :: .int j :: .ref a :: rest ∧ ((am_kd μ a).1 = t1 ∨ (am_kd μ a).1 = t2) ∧ ¬ (j < 0 ∨ (am_kd μ a).2 ≤ j.toNatClampNeg) ∧ pc + 1 = pc' ∧ lv = lv' ∧ rest = st' ∧ am_pA μ a j.toNatClampNeg (am_nar (am_kd μ a).1 x) = μ' := by
  unfold am_xst at h
  split at h
  · split at h
    · rename_i hi
      exact ⟨_, _, _, _, rfl, hi.1, hi.2, am_nx_inv h⟩
    · cases h
  · cases h
theorem am_xsl_inv (h : am_xsl pc lv st μ = some (.inl (pc', lv', st', μ'))) : ∃ x j a rest, st = .long x :: .int j :: .ref a :: rest ∧ (am_kd μ a).1 = 6 ∧ ¬ (j < 0 ∨ (am_kd μ a).2 ≤ j.toNatClampNeg) ∧ pc + 1 = pc' ∧ lv = lv' ∧ rest = st' ∧ am_pL μ a j.toNatClampNeg x = μ' := by
  unfold am_xsl at h
  split at h
  · split at h
    · rename_i hi
      exact ⟨_, _, _, _, rfl, hi.1, hi.2, am_nx_inv h⟩
    · cases h
  · cases h
theorem am_new_inv {t : Nat} (h : am_new t pc lv st μ = some (.inl (pc', lv', st', μ'))) : ∃ x rest, st = .int x :: rest ∧ ¬ t = 0 ∧ ¬ x < 0 ∧ x.toNatClampNeg ≤ 60000000 ∧ pc + 2 = pc' ∧ lv = lv' ∧ .ref (am_n μ) :: rest = st' ∧ am_nA μ t x.toNatClampNeg = μ' := by
  unfold am_new at h
  split at h
  · split at h
    · rename_i hi
      exact ⟨_, _, rfl, hi.1, hi.2.1, hi.2.2, am_nx_inv h⟩
    · cases h
  · cases h
theorem am_fld_inv {G : am_G} {oc ix : Nat} (h : am_fld G oc ix pc lv st μ = some (.inl (pc', lv', st', μ'))) : ∃ a rest ci f, st = .ref a :: rest ∧ am_rf G oc ix = some (ci, f) ∧ am_kd μ a = (1, ci) ∧ pc + 3 = pc' ∧ lv = lv' ∧ am_O μ a f :: rest = st' ∧ μ = μ' := by
  unfold am_fld at h
  split at h
  · rename_i a rest ci f hx
    split at h
    · rename_i hi
      have e : am_O μ a f = am_fv (am_ty ci f) (am_A μ a f) (am_L μ a f) (am_F μ a f) := by unfold am_O; rw [hi]
      refine ⟨_, _, _, _, rfl, hx, hi, ?_⟩
      rw [e]
      unfold am_fv
      split at h
      · exact am_nx_inv h
      · exact am_nx_inv h
      · split at h
        · cases h
        · rename_i hr
          show _ ∧ _ ∧ (if am_F μ a f = 15 then Value.null else Value.ref (am_F μ a f)) :: rest = st' ∧ _
          rw [if_neg hr]
          exact am_nx_inv h
      · cases h
    · cases h
  · cases h
theorem am_fldx_inv {G : am_G} {oc ix : Nat} (h : am_fldx G oc ix pc lv st μ = some (.inl (pc', lv', st', μ'))) : (∃ a rest v, st = .ref a :: rest ∧ am_xf G oc ix a = some v ∧ pc + 3 = pc' ∧ lv = lv' ∧ v :: rest = st' ∧ μ = μ') ∨ ∃ a rest ci f, st = .ref a :: rest ∧ am_rf G oc ix = some (ci, f) ∧ am_kd μ a = (1, ci) ∧ pc + 3 = pc' ∧ lv = lv' ∧ am_O μ a f :: rest = st' ∧ μ = μ' := by
  unfold am_fldx at h
  split at h
  · rename_i v rest hg
    left
    unfold am_xg at hg
    split at hg
    · split at hg
      · rename_i hv
        cases hg
        exact ⟨_, _, _, rfl, hv, am_nx_inv h⟩
      · cases hg
    · cases hg
  · exact Or.inr (am_fld_inv h)
theorem am_acp_inv {G : am_G} {oc ix : Nat} (h : am_acp G oc ix pc lv st μ = some (.inl (pc', lv', st', μ'))) : ∃ n dp b sp a rest, st = .int n :: .int dp :: .ref b :: .int sp :: .ref a :: rest ∧ am_ac G oc ix = true ∧ ((((am_kd μ a).1 = 2 ∨ (am_kd μ a).1 = 8) ∧ (am_kd μ b).1 = 2) ∨ ((am_kd μ a).1 = 7 ∧ (am_kd μ b).1 = 7 ∧ ∀ i, i < n.toNatClampNeg → fits .short (.int (am_A μ a (sp.toNatClampNeg + i))) = true)) ∧ (¬ n < 0 ∧ ¬ dp < 0 ∧ ¬ sp < 0) ∧ (sp.toNatClampNeg + n.toNatClampNeg ≤ (am_kd μ a).2 ∧ dp.toNatClampNeg + n.toNatClampNeg ≤ (am_kd μ b).2) ∧ (rest.map fun v => v.category).sum ≤ 8 ∧ pc + 3 = pc' ∧ lv = lv' ∧ rest = st' ∧ am_wA μ b (am_cp (am_A μ a) (am_A μ b) sp.toNatClampNeg dp.toNatClampNeg n.toNatClampNeg) = μ' := by
  unfold am_acp at h
  split at h
  · split at h
    · rename_i hi
      exact ⟨_, _, _, _, _, _, rfl, hi.1, hi.2.1, hi.2.2.1, hi.2.2.2.1, hi.2.2.2.2, am_nx_inv h⟩
    · cases h
  · cases h
theorem am_ivs_inv {G : am_G} {oc ix : Nat} (h : am_ivs G oc ix pc lv st μ = some (.inl (pc', lv', st', μ'))) : (am_mi G oc ix = true ∧ ∃ y x rest, st = .int y :: .int x :: rest ∧ (rest.map fun v => v.category).sum ≤ 8 ∧ pc + 3 = pc' ∧ lv = lv' ∧ .int (if y < x then y else x) :: rest = st' ∧ μ = μ') ∨ am_acp G oc ix pc lv st μ = some (.inl (pc', lv', st', μ')) := by
  unfold am_ivs at h
  split at h
  · rename_i hm
    left
    refine ⟨hm, ?_⟩
    unfold am_mn at h
    split at h
    · split at h
      · rename_i hc
        exact ⟨_, _, _, rfl, hc, am_nx_inv h⟩
      · cases h
    · cases h
  · exact Or.inr h
theorem am_put_inv {G : am_G} {oc ix : Nat} {ini : Bool} (h : am_put G oc ini ix pc lv st μ = some (.inl (pc', lv', st', μ'))) : ∃ v a rest ci f, st = v :: .ref a :: rest ∧ am_rf G oc ix = some (ci, f) ∧ (am_kd μ a = (1, ci) ∧ narrow (am_ty ci f) v = v ∧ fits (am_ty ci f) v = true ∧ am_vk v = true ∧ (am_cF G ci f = false ∨ (ini = true ∧ ci = oc))) ∧ pc + 3 = pc' ∧ lv = lv' ∧ rest = st' ∧ am_pO μ a f v = μ' := by
  unfold am_put at h
  split at h
  · rename_i hx
    split at h
    · rename_i hi
      exact ⟨_, _, _, _, _, rfl, hx, hi, am_nx_inv h⟩
    · cases h
  · cases h
theorem am_nob_inv {G : am_G} {oc ix : Nat} (h : am_nob G oc ix pc lv st μ = some (.inl (pc', lv', st', μ'))) : ∃ ci, am_rc G oc ix = some ci ∧ pc + 3 = pc' ∧ lv = lv' ∧ .ref (am_n μ) :: st = st' ∧ am_nO μ ci (am_cN G ci) = μ' := by
  unfold am_nob at h
  split at h
  · rename_i hx
    exact ⟨_, hx, am_nx_inv h⟩
  · cases h
theorem am_obi_inv {G : am_G} {oc ix : Nat} (h : am_obi G oc ix pc lv st μ = some (.inl (pc', lv', st', μ'))) : ∃ a rest, st = .ref a :: rest ∧ am_ob G oc ix = true ∧ (rest.map fun v => v.category).sum ≤ 8 ∧ pc + 3 = pc' ∧ lv = lv' ∧ rest = st' ∧ μ = μ' := by
  unfold am_obi at h
  split at h
  · split at h
    · rename_i hi
      exact ⟨_, _, rfl, hi.1, hi.2, am_nx_inv h⟩
    · cases h
  · cases h
theorem am_jmp_inv {off : Int} (h : am_jmp pc off lv st μ = some (.inl (pc', lv', st', μ'))) : (pc : Int) + off = (pc' : Int) ∧ lv = lv' ∧ st = st' ∧ μ = μ' := by
  unfold am_jmp at h
  split at h
  · rename_i t ht
    obtain ⟨h1, h2⟩ := am_nx_inv (pc := t) h
    refine ⟨?_, h2⟩
    unfold am_tgt at ht
    split at ht
    · cases ht
      omega
    · cases ht
  · cases h
theorem am_br_inv {off : Int} {b : Prop} [Decidable b] (h : am_br b pc off lv st μ = some (.inl (pc', lv', st', μ'))) : ∃ t : Nat, (pc : Int) + off = (t : Int) ∧ ((b ∧ t = pc') ∨ (¬ b ∧ pc + 3 = pc')) ∧ lv = lv' ∧ st = st' ∧ μ = μ' := by
  unfold am_br at h
  split at h
  · rename_i t ht
    have h1 : (pc : Int) + off = (t : Int) := by
      unfold am_tgt at ht
      split at ht
      · cases ht
        omega
      · cases ht
    split at h
    · rename_i hb
      obtain ⟨h2, h3⟩ := am_nx_inv h
      exact ⟨t, h1, Or.inl ⟨hb, h2⟩, h3⟩
    · rename_i hb
      obtain ⟨h2, h3⟩ := am_nx_inv h
      exact ⟨t, h1, Or.inr ⟨hb, h2⟩, h3⟩
  · cases h
end AMI
