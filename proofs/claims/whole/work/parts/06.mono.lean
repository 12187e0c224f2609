/-! ===== what is made only grows; returns ===== -/
section AMM
variable {G : am_G} {oc nL : Nat} {ini : Bool} {ret : Option FieldType} {pc pc' : Nat} {i : Instr} {lv lv' : List (Option Value)} {st st' : List Value} {μ μ' : am_Mem}
theorem am_step_mono (hs : am_step G oc nL ini ret pc i lv st μ = some (.inl (pc', lv', st', μ'))) : am_n μ ≤ am_n μ' ∧ am_sl μ ≤ am_sl μ' := by
  cases i with
  | iconst n =>
    obtain ⟨-, -, -, rfl⟩ := am_nx_inv hs
    exact ⟨Nat.le_refl _, Nat.le_refl _⟩
  | bipush n =>
    obtain ⟨-, -, -, rfl⟩ := am_nx_inv hs
    exact ⟨Nat.le_refl _, Nat.le_refl _⟩
  | sipush n =>
    obtain ⟨-, -, -, rfl⟩ := am_nx_inv hs
    exact ⟨Nat.le_refl _, Nat.le_refl _⟩
  | lconst n =>
    obtain ⟨-, -, -, rfl⟩ := am_nx_inv hs
    exact ⟨Nat.le_refl _, Nat.le_refl _⟩
  | ldc ix =>
    simp only [am_step] at hs
    split at hs
    · obtain ⟨-, -, -, rfl⟩ := am_nx_inv hs
      exact ⟨Nat.le_refl _, Nat.le_refl _⟩
    · split at hs
      · obtain ⟨-, -, -, rfl⟩ := am_nx_inv hs
        exact ⟨Nat.le_refl _, Nat.le_refl _⟩
      · cases hs
  | getstatic ix =>
    simp only [am_step] at hs
    split at hs
    · obtain ⟨-, -, -, rfl⟩ := am_nx_inv hs
      exact ⟨Nat.le_refl _, Nat.le_refl _⟩
    · cases hs
  | invokestatic ix =>
    rcases am_ivs_inv hs with ⟨-, y, x, rest, -, -, -, -, -, rfl⟩ | hs
    · exact ⟨Nat.le_refl _, Nat.le_refl _⟩
    obtain ⟨n, dp, b, sp, a, rest, -, -, -, -, -, -, -, -, -, rfl⟩ := am_acp_inv hs
    exact ⟨Nat.le_refl _, Nat.le_refl _⟩
  | i2s =>
    obtain ⟨x, rest, -, -, -, -, rfl⟩ := am_i1_inv hs
    exact ⟨Nat.le_refl _, Nat.le_refl _⟩
  | saload =>
    obtain ⟨j, a, rest, -, -, -, -, -, -, rfl⟩ := am_xld_inv hs
    exact ⟨Nat.le_refl _, Nat.le_refl _⟩
  | sastore =>
    obtain ⟨x, j, a, rest, -, -, -, -, -, -, rfl⟩ := am_xst_inv hs
    exact ⟨Nat.le_refl _, Nat.le_refl _⟩
  | ldc_w ix =>
    simp only [am_step] at hs
    split at hs
    · obtain ⟨-, -, -, rfl⟩ := am_nx_inv hs
      exact ⟨Nat.le_refl _, Nat.le_refl _⟩
    · cases hs
  | ldc2_w ix =>
    simp only [am_step] at hs
    split at hs
    · obtain ⟨-, -, -, rfl⟩ := am_nx_inv hs
      exact ⟨Nat.le_refl _, Nat.le_refl _⟩
    · cases hs
  | lcmp =>
    simp only [am_step] at hs
    split at hs
    · obtain ⟨-, -, -, rfl⟩ := am_nx_inv hs
      exact ⟨Nat.le_refl _, Nat.le_refl _⟩
    · cases hs
  | l2i =>
    simp only [am_step] at hs
    split at hs
    · obtain ⟨-, -, -, rfl⟩ := am_nx_inv hs
      exact ⟨Nat.le_refl _, Nat.le_refl _⟩
    · cases hs
  | iload_n k =>
    obtain ⟨x, -, -, -, -, rfl⟩ := am_ild_inv hs
    exact ⟨Nat.le_refl _, Nat.le_refl _⟩
  | iload k =>
    obtain ⟨x, -, -, -, -, rfl⟩ := am_ild_inv hs
    exact ⟨Nat.le_refl _, Nat.le_refl _⟩
  | lload_n k =>
    obtain ⟨x, -, -, -, -, rfl⟩ := am_lld_inv hs
    exact ⟨Nat.le_refl _, Nat.le_refl _⟩
  | lload k =>
    obtain ⟨x, -, -, -, -, rfl⟩ := am_lld_inv hs
    exact ⟨Nat.le_refl _, Nat.le_refl _⟩
  | aload_n k =>
    obtain ⟨x, -, -, -, -, rfl⟩ := am_ald_inv hs
    exact ⟨Nat.le_refl _, Nat.le_refl _⟩
  | aload k =>
    obtain ⟨x, -, -, -, -, rfl⟩ := am_ald_inv hs
    exact ⟨Nat.le_refl _, Nat.le_refl _⟩
  | istore_n k =>
    obtain ⟨x, rest, -, -, -, -, -, rfl⟩ := am_ist_inv hs
    exact ⟨Nat.le_refl _, Nat.le_refl _⟩
  | istore k =>
    obtain ⟨x, rest, -, -, -, -, -, rfl⟩ := am_ist_inv hs
    exact ⟨Nat.le_refl _, Nat.le_refl _⟩
  | lstore_n k =>
    obtain ⟨x, rest, -, -, -, -, -, rfl⟩ := am_lst_inv hs
    exact ⟨Nat.le_refl _, Nat.le_refl _⟩
  | lstore k =>
    obtain ⟨x, rest, -, -, -, -, -, rfl⟩ := am_lst_inv hs
    exact ⟨Nat.le_refl _, Nat.le_refl _⟩
  | astore_n k =>
    obtain ⟨x, rest, -, -, -, -, -, rfl⟩ := am_ast_inv hs
    exact ⟨Nat.le_refl _, Nat.le_refl _⟩
  | astore k =>
    obtain ⟨x, rest, -, -, -, -, -, rfl⟩ := am_ast_inv hs
    exact ⟨Nat.le_refl _, Nat.le_refl _⟩
  | iinc k n =>
    simp only [am_step] at hs
    split at hs
    · split at hs
      · obtain ⟨-, -, -, rfl⟩ := am_nx_inv hs
        exact ⟨Nat.le_refl _, Nat.le_refl _⟩
      · cases hs
    · cases hs
  | dup =>
    simp only [am_step] at hs
    split at hs
    · split at hs
      · obtain ⟨-, -, -, rfl⟩ := am_nx_inv hs
        exact ⟨Nat.le_refl _, Nat.le_refl _⟩
      · cases hs
    · cases hs
  | pop =>
    simp only [am_step] at hs
    split at hs
    · split at hs
      · obtain ⟨-, -, -, rfl⟩ := am_nx_inv hs
        exact ⟨Nat.le_refl _, Nat.le_refl _⟩
      · cases hs
    · cases hs
  | dup_x1 =>
    simp only [am_step] at hs
    split at hs
    · split at hs
      · obtain ⟨-, -, -, rfl⟩ := am_nx_inv hs
        exact ⟨Nat.le_refl _, Nat.le_refl _⟩
      · cases hs
    · cases hs
  | dup2 =>
    simp only [am_step] at hs
    split at hs
    · split at hs
      · obtain ⟨-, -, -, rfl⟩ := am_nx_inv hs
        exact ⟨Nat.le_refl _, Nat.le_refl _⟩
      · cases hs
    · cases hs
  | arraylength =>
    simp only [am_step] at hs
    split at hs
    · split at hs
      · obtain ⟨-, -, -, rfl⟩ := am_nx_inv hs
        exact ⟨Nat.le_refl _, Nat.le_refl _⟩
      · cases hs
    · cases hs
  | iadd =>
    obtain ⟨x, y, rest, -, -, -, -, rfl⟩ := am_i2_inv hs
    exact ⟨Nat.le_refl _, Nat.le_refl _⟩
  | isub =>
    obtain ⟨x, y, rest, -, -, -, -, rfl⟩ := am_i2_inv hs
    exact ⟨Nat.le_refl _, Nat.le_refl _⟩
  | imul =>
    obtain ⟨x, y, rest, -, -, -, -, rfl⟩ := am_i2_inv hs
    exact ⟨Nat.le_refl _, Nat.le_refl _⟩
  | iand =>
    obtain ⟨x, y, rest, -, -, -, -, rfl⟩ := am_i2_inv hs
    exact ⟨Nat.le_refl _, Nat.le_refl _⟩
  | ior =>
    obtain ⟨x, y, rest, -, -, -, -, rfl⟩ := am_i2_inv hs
    exact ⟨Nat.le_refl _, Nat.le_refl _⟩
  | ixor =>
    obtain ⟨x, y, rest, -, -, -, -, rfl⟩ := am_i2_inv hs
    exact ⟨Nat.le_refl _, Nat.le_refl _⟩
  | ishl =>
    obtain ⟨x, y, rest, -, -, -, -, rfl⟩ := am_i2_inv hs
    exact ⟨Nat.le_refl _, Nat.le_refl _⟩
  | ishr =>
    obtain ⟨x, y, rest, -, -, -, -, rfl⟩ := am_i2_inv hs
    exact ⟨Nat.le_refl _, Nat.le_refl _⟩
  | iushr =>
    obtain ⟨x, y, rest, -, -, -, -, rfl⟩ := am_i2_inv hs
    exact ⟨Nat.le_refl _, Nat.le_refl _⟩
  | idiv =>
    obtain ⟨x, y, rest, -, -, -, -, -, rfl⟩ := am_i2z_inv hs
    exact ⟨Nat.le_refl _, Nat.le_refl _⟩
  | irem =>
    obtain ⟨x, y, rest, -, -, -, -, -, rfl⟩ := am_i2z_inv hs
    exact ⟨Nat.le_refl _, Nat.le_refl _⟩
  | ladd =>
    obtain ⟨x, y, rest, -, -, -, -, rfl⟩ := am_l2_inv hs
    exact ⟨Nat.le_refl _, Nat.le_refl _⟩
  | lsub =>
    obtain ⟨x, y, rest, -, -, -, -, rfl⟩ := am_l2_inv hs
    exact ⟨Nat.le_refl _, Nat.le_refl _⟩
  | lmul =>
    obtain ⟨x, y, rest, -, -, -, -, rfl⟩ := am_l2_inv hs
    exact ⟨Nat.le_refl _, Nat.le_refl _⟩
  | land =>
    obtain ⟨x, y, rest, -, -, -, -, rfl⟩ := am_l2_inv hs
    exact ⟨Nat.le_refl _, Nat.le_refl _⟩
  | lor =>
    obtain ⟨x, y, rest, -, -, -, -, rfl⟩ := am_l2_inv hs
    exact ⟨Nat.le_refl _, Nat.le_refl _⟩
  | ldiv =>
    obtain ⟨x, y, rest, -, -, -, -, -, rfl⟩ := am_l2z_inv hs
    exact ⟨Nat.le_refl _, Nat.le_refl _⟩
  | lrem =>
    obtain ⟨x, y, rest, -, -, -, -, -, rfl⟩ := am_l2z_inv hs
    exact ⟨Nat.le_refl _, Nat.le_refl _⟩
  | lushr =>
    obtain ⟨x, y, rest, -, -, -, -, rfl⟩ := am_lsh_inv hs
    exact ⟨Nat.le_refl _, Nat.le_refl _⟩
  | lshl =>
    obtain ⟨x, y, rest, -, -, -, -, rfl⟩ := am_lsh_inv hs
    exact ⟨Nat.le_refl _, Nat.le_refl _⟩
  | lshr =>
    obtain ⟨x, y, rest, -, -, -, -, rfl⟩ := am_lsh_inv hs
    exact ⟨Nat.le_refl _, Nat.le_refl _⟩
  | ineg =>
    obtain ⟨x, rest, -, -, -, -, rfl⟩ := am_i1_inv hs
    exact ⟨Nat.le_refl _, Nat.le_refl _⟩
  | i2l =>
    obtain ⟨x, rest, -, -, -, -, rfl⟩ := am_i1_inv hs
    exact ⟨Nat.le_refl _, Nat.le_refl _⟩
  | i2b =>
    obtain ⟨x, rest, -, -, -, -, rfl⟩ := am_i1_inv hs
    exact ⟨Nat.le_refl _, Nat.le_refl _⟩
  | i2c =>
    obtain ⟨x, rest, -, -, -, -, rfl⟩ := am_i1_inv hs
    exact ⟨Nat.le_refl _, Nat.le_refl _⟩
  | ifCond c off =>
    simp only [am_step] at hs
    split at hs
    · cases c <;> (obtain ⟨t, -, -, -, -, rfl⟩ := am_br_inv hs; exact ⟨Nat.le_refl _, Nat.le_refl _⟩)
    · cases hs
  | if_icmp c off =>
    simp only [am_step] at hs
    split at hs
    · cases c <;> (obtain ⟨t, -, -, -, -, rfl⟩ := am_br_inv hs; exact ⟨Nat.le_refl _, Nat.le_refl _⟩)
    · cases hs
  | goto off =>
    obtain ⟨-, -, -, rfl⟩ := am_jmp_inv hs
    exact ⟨Nat.le_refl _, Nat.le_refl _⟩
  | tableswitch dflt lo hi offs =>
    simp only [am_step] at hs
    unfold am_swt at hs
    split at hs
    · split at hs
      · obtain ⟨-, -, -, rfl⟩ := am_jmp_inv hs
        exact ⟨Nat.le_refl _, Nat.le_refl _⟩
      · split at hs
        · obtain ⟨-, -, -, rfl⟩ := am_jmp_inv hs
          exact ⟨Nat.le_refl _, Nat.le_refl _⟩
        · cases hs
    · cases hs
  | getfield ix =>
    rcases am_fldx_inv hs with ⟨a, rest, v, -, -, -, -, -, rfl⟩ | ⟨a, rest, ci, f, -, -, -, -, -, -, rfl⟩
    · exact ⟨Nat.le_refl _, Nat.le_refl _⟩
    · exact ⟨Nat.le_refl _, Nat.le_refl _⟩
  | putfield ix =>
    obtain ⟨v, a, rest, ci, f, -, -, -, -, -, -, rfl⟩ := am_put_inv hs
    rw [(am_pO_n μ a f v).1, (am_pO_n μ a f v).2]
    exact ⟨Nat.le_refl _, Nat.le_refl _⟩
  | iaload =>
    obtain ⟨j, a, rest, -, -, -, -, -, -, rfl⟩ := am_xld_inv hs
    exact ⟨Nat.le_refl _, Nat.le_refl _⟩
  | baload =>
    obtain ⟨j, a, rest, -, -, -, -, -, -, rfl⟩ := am_xld_inv hs
    exact ⟨Nat.le_refl _, Nat.le_refl _⟩
  | caload =>
    obtain ⟨j, a, rest, -, -, -, -, -, -, rfl⟩ := am_xld_inv hs
    exact ⟨Nat.le_refl _, Nat.le_refl _⟩
  | laload =>
    obtain ⟨j, a, rest, -, -, -, -, -, -, rfl⟩ := am_xll_inv hs
    exact ⟨Nat.le_refl _, Nat.le_refl _⟩
  | iastore =>
    obtain ⟨x, j, a, rest, -, -, -, -, -, -, rfl⟩ := am_xst_inv hs
    exact ⟨Nat.le_refl _, Nat.le_refl _⟩
  | bastore =>
    obtain ⟨x, j, a, rest, -, -, -, -, -, -, rfl⟩ := am_xst_inv hs
    exact ⟨Nat.le_refl _, Nat.le_refl _⟩
  | castore =>
    obtain ⟨x, j, a, rest, -, -, -, -, -, -, rfl⟩ := am_xst_inv hs
    exact ⟨Nat.le_refl _, Nat.le_refl _⟩
  | lastore =>
    obtain ⟨x, j, a, rest, -, -, -, -, -, -, rfl⟩ := am_xsl_inv hs
    exact ⟨Nat.le_refl _, Nat.le_refl _⟩
  | newarray t =>
    obtain ⟨x, rest, -, -, -, -, -, -, -, rfl⟩ := am_new_inv hs
    exact ⟨Nat.le_succ _, Nat.le_add_right _ _⟩
  | new ix =>
    obtain ⟨ci, -, -, -, -, rfl⟩ := am_nob_inv hs
    exact ⟨Nat.le_succ _, Nat.le_add_right _ _⟩
  | invokespecial ix =>
    obtain ⟨a, rest, -, -, -, -, -, -, rfl⟩ := am_obi_inv hs
    exact ⟨Nat.le_refl _, Nat.le_refl _⟩
  | ireturn =>
    simp only [am_step] at hs
    split at hs <;> first | (split at hs <;> cases hs) | cases hs
  | lreturn =>
    simp only [am_step] at hs
    split at hs <;> first | (split at hs <;> cases hs) | cases hs
  | areturn =>
    simp only [am_step] at hs
    split at hs <;> first | (split at hs <;> cases hs) | cases hs
  | return_ =>
    simp only [am_step] at hs
    split at hs <;> first | (split at hs <;> cases hs) | cases hs
  | _ => cases hs
/-- the ends of a frame -/
theorem am_step_ret {v : Option Value} (hs : am_step G oc nL ini ret pc i lv st μ = some (.inr (v, μ'))) : μ = μ' ∧
    ((∃ x ty, i = .ireturn ∧ st = [.int x] ∧ ret = some ty ∧ narrow ty (.int x) = .int x ∧ v = some (.int x)) ∨
     (∃ x, i = .lreturn ∧ st = [.long x] ∧ ret = some .long ∧ v = some (.long x)) ∨
     (∃ a rt, i = .areturn ∧ st = [.ref a] ∧ ret = some rt ∧ ((∃ n, rt = .object n) ∨ ∃ t, rt = .array t) ∧ v = some (.ref a)) ∨
     (i = .return_ ∧ st = [] ∧ ret = none ∧ v = none)) := by
  cases i with
  | ireturn =>
    simp only [am_step] at hs
    split at hs
    · split at hs
      · rename_i h
        cases hs
        exact ⟨rfl, Or.inl ⟨_, _, rfl, rfl, rfl, h.1, rfl⟩⟩
      · cases hs
    · cases hs
  | lreturn =>
    simp only [am_step] at hs
    split at hs
    · split at hs
      · rename_i h
        cases hs
        exact ⟨rfl, Or.inr (Or.inl ⟨_, rfl, rfl, h, rfl⟩)⟩
      · cases hs
    · cases hs
  | areturn =>
    simp only [am_step] at hs
    split at hs
    · cases hs
      exact ⟨rfl, Or.inr (Or.inr (Or.inl ⟨_, _, rfl, rfl, rfl, Or.inr ⟨_, rfl⟩, rfl⟩))⟩
    · cases hs
      exact ⟨rfl, Or.inr (Or.inr (Or.inl ⟨_, _, rfl, rfl, rfl, Or.inl ⟨_, rfl⟩, rfl⟩))⟩
    · cases hs
  | return_ =>
    simp only [am_step] at hs
    split at hs
    · split at hs
      · rename_i h
        cases hs
        exact ⟨rfl, Or.inr (Or.inr (Or.inr ⟨rfl, rfl, h, rfl⟩))⟩
      · cases hs
    · cases hs
  | _ =>
    first
    | (cases hs; done)
    | (simp only [am_step, am_nx, am_i2, am_i2z, am_l2, am_l2z, am_lsh, am_i1, am_ild, am_lld, am_ald, am_ist, am_lst, am_ast, am_xld, am_xll, am_xst, am_xsl, am_new, am_fldx, am_ivs, am_mn, am_acp, am_fld, am_put, am_nob, am_obi, am_swt, am_cond, am_jmp, am_br] at hs
       (repeat' split at hs) <;> cases hs)
theorem am_run_mono (G : am_G) : ∀ (n d k : Nat) (cf : am_C) (o : Option Value ⊕ Nat) (μ' : am_Mem), am_run G n d k cf = some (o, μ') → am_n cf.2.2.2 ≤ am_n μ' ∧ am_sl cf.2.2.2 ≤ am_sl μ' := by
  intro n
  induction n with
  | zero => intro d k cf o μ' h; cases h
  | succ n ih =>
    rintro d k ⟨pc, lv, st, μ⟩ o μ' h
    unfold am_run at h
    split at h
    · cases h
    · split at h
      · split at h
        · split at h
          · cases h
          · split at h
            · split at h
              · cases h
              · rename_i h1
                have a1 := ih _ _ _ _ _ h1
                have a2 := ih _ _ _ _ _ h
                exact ⟨Nat.le_trans a1.1 a2.1, Nat.le_trans a1.2 a2.2⟩
              · rename_i h1
                have a1 := ih _ _ _ _ _ h1
                split at h
                · cases h
                · split at h
                  · cases h
                    exact a1
                  · split at h
                    · cases h
                    · split at h
                      · have a2 := ih _ _ _ _ _ h
                        exact ⟨Nat.le_trans a1.1 a2.1, Nat.le_trans a1.2 a2.2⟩
                      · cases h
            · cases h
        · split at h
          · split at h
            · cases h
              exact ⟨Nat.le_succ _, Nat.le_add_right _ _⟩
            · cases h
          · split at h
            · split at h
              · cases h
              · rename_i cf h1
                obtain ⟨pc2, lv2, st2, μ2⟩ := cf
                have a1 := am_step_mono h1
                have a2 := ih _ _ _ _ _ h
                exact ⟨Nat.le_trans a1.1 a2.1, Nat.le_trans a1.2 a2.2⟩
              · rename_i v μ2 h1
                cases h
                obtain ⟨rfl, -⟩ := am_step_ret h1
                exact ⟨Nat.le_refl _, Nat.le_refl _⟩
            · cases h
      · cases h
end AMM
