/-! ===== runs of the small machine, block by block ===== -/
theorem am_run_fuel (G : am_G) : ∀ (n d k : Nat) (cf : am_C) (r : (Option Value ⊕ Nat) × am_Mem), am_run G n d k cf = some r → ∀ m, n ≤ m → am_run G m d k cf = some r := by
  intro n
  induction n with
  | zero => intro d k cf r h; cases h
  | succ n ih =>
    intro d k cf r h m hm
    obtain ⟨m, rfl⟩ : ∃ m', m = m' + 1 := ⟨m - 1, by omega⟩
    have hm' : n ≤ m := by omega
    obtain ⟨pc, lv, st, μ⟩ := cf
    unfold am_run at h ⊢
    cases hM : am_mt G k with
    | none => rw [hM] at h; cases h
    | some M =>
      rw [hM] at h
      simp only at h ⊢
      cases hd : decode (am_Mc M) pc with
      | error e => rw [hd] at h; cases h
      | ok q =>
        obtain ⟨i, len⟩ := q
        rw [hd] at h
        simp only at h ⊢
        cases hcal : am_callee G (am_Mo M) i st μ with
        | some q =>
          obtain ⟨k1, vs, rest⟩ := q
          rw [hcal] at h
          simp only at h ⊢
          cases d with
          | zero => cases h
          | succ d1 =>
            simp only at h ⊢
            split at h
            · rename_i hc
              rw [if_pos hc]
              split at h
              · cases h
              · rename_i v μ1 h1
                rw [ih _ _ _ _ h1 m hm']
                exact ih _ _ _ _ h m hm'
              · rename_i x μ1 h1
                rw [ih _ _ _ _ h1 m hm']
                simp only
                split at h
                · cases h
                · rename_i hi
                  rw [if_neg hi]
                  split at h
                  · rename_i hh
                    rw [if_pos hh]
                    exact h
                  · rename_i hh
                    rw [if_neg hh]
                    split at h
                    · cases h
                    · rename_i pc2 j hj
                      try simp only [hj]
                      split at h
                      · rename_i hj2
                        rw [if_pos hj2]
                        exact ih _ _ _ _ h m hm'
                      · cases h
            · cases h
        | none =>
          rw [hcal] at h
          simp only at h ⊢
          cases hth : am_throw G (am_Mo M) k pc i with
          | some x =>
            rw [hth] at h
            exact h
          | none =>
            rw [hth] at h
            simp only at h ⊢
            split at h
            · rename_i hl
              rw [if_pos hl]
              split at h
              · cases h
              · rename_i cf2 hst
                try simp only [hst]
                exact ih _ _ _ _ h m hm'
              · rename_i v μ2 hst
                try simp only [hst]
                exact h
            · cases h
/-- the run from here ends, and as Q says -/
def Wp (d k : Nat) (cf : am_C) (Q : Option Value ⊕ Nat → am_Mem → Prop) : Prop := ∃ n o μ', am_run GG n d k cf = some (o, μ') ∧ Q o μ'
theorem Wp.mono {d k : Nat} {cf : am_C} {Q Q' : Option Value ⊕ Nat → am_Mem → Prop} (h : Wp d k cf Q) (hq : ∀ o μ, Q o μ → Q' o μ) : Wp d k cf Q' := by
  obtain ⟨n, o, μ', h1, h2⟩ := h
  exact ⟨n, o, μ', h1, hq o μ' h2⟩
def am_wbr (b : Prop) (pc : Nat) (off : Int) (K : Nat → Prop) : Prop := match am_tgt pc off with
  | some t => (b → K t) ∧ (¬ b → K (pc + 3))
  | none => False
def am_wcd (c : ClassFile.Cond) (x y : Int32) (pc : Nat) (off : Int) (K : Nat → Prop) : Prop := match c with
  | .eq => am_wbr (x = y) pc off K
  | .ne => am_wbr (¬ x = y) pc off K
  | .lt => am_wbr (x < y) pc off K
  | .ge => am_wbr (y ≤ x) pc off K
  | .gt => am_wbr (y < x) pc off K
  | .le => am_wbr (x ≤ y) pc off K
abbrev am_KK : Type := Nat → List (Option Value) → List Value → am_Mem → Prop
def am_wi2 (f : Int32 → Int32 → Int32) (pc : Nat) (lv : List (Option Value)) (st : List Value) (μ : am_Mem) (K : am_KK) : Prop := match st with
  | .int y :: .int x :: rest => K (pc + 1) lv (.int (f x y) :: rest) μ
  | _ => False
def am_wi2z (f : Int32 → Int32 → Int32) (pc : Nat) (lv : List (Option Value)) (st : List Value) (μ : am_Mem) (K : am_KK) : Prop := match st with
  | .int y :: .int x :: rest => ¬ y = 0 ∧ K (pc + 1) lv (.int (f x y) :: rest) μ
  | _ => False
def am_wl2 (f : Int64 → Int64 → Int64) (pc : Nat) (lv : List (Option Value)) (st : List Value) (μ : am_Mem) (K : am_KK) : Prop := match st with
  | .long y :: .long x :: rest => K (pc + 1) lv (.long (f x y) :: rest) μ
  | _ => False
def am_wl2z (f : Int64 → Int64 → Int64) (pc : Nat) (lv : List (Option Value)) (st : List Value) (μ : am_Mem) (K : am_KK) : Prop := match st with
  | .long y :: .long x :: rest => ¬ y = 0 ∧ K (pc + 1) lv (.long (f x y) :: rest) μ
  | _ => False
def am_wlsh (f : Int64 → Int32 → Int64) (pc : Nat) (lv : List (Option Value)) (st : List Value) (μ : am_Mem) (K : am_KK) : Prop := match st with
  | .int y :: .long x :: rest => K (pc + 1) lv (.long (f x y) :: rest) μ
  | _ => False
def am_wi1 (f : Int32 → Value) (pc : Nat) (lv : List (Option Value)) (st : List Value) (μ : am_Mem) (K : am_KK) : Prop := match st with
  | .int x :: rest => K (pc + 1) lv (f x :: rest) μ
  | _ => False
def am_wli (len i pc : Nat) (lv : List (Option Value)) (st : List Value) (μ : am_Mem) (K : am_KK) : Prop := match am_lget lv i with
  | some (.int x) => K (pc + len) lv (.int x :: st) μ
  | _ => False
def am_wll (len i pc : Nat) (lv : List (Option Value)) (st : List Value) (μ : am_Mem) (K : am_KK) : Prop := match am_lget lv i with
  | some (.long x) => K (pc + len) lv (.long x :: st) μ
  | _ => False
def am_wla (len i pc : Nat) (lv : List (Option Value)) (st : List Value) (μ : am_Mem) (K : am_KK) : Prop := match am_lget lv i with
  | some (.ref x) => K (pc + len) lv (.ref x :: st) μ
  | _ => False
def am_wsi (nL len i pc : Nat) (lv : List (Option Value)) (st : List Value) (μ : am_Mem) (K : am_KK) : Prop := match st with
  | .int x :: rest => bif Nat.blt i nL then K (pc + len) (am_set1 lv i (.int x)) rest μ else False
  | _ => False
def am_wsl (nL len i pc : Nat) (lv : List (Option Value)) (st : List Value) (μ : am_Mem) (K : am_KK) : Prop := match st with
  | .long x :: rest => bif Nat.blt (i + 1) nL then K (pc + len) (am_set2 lv i (.long x)) rest μ else False
  | _ => False
def am_wsa (nL len i pc : Nat) (lv : List (Option Value)) (st : List Value) (μ : am_Mem) (K : am_KK) : Prop := match st with
  | .ref x :: rest => bif Nat.blt i nL then K (pc + len) (am_set1 lv i (.ref x)) rest μ else False
  | _ => False
def am_wxl (c : Nat → Prop) (pc : Nat) (lv : List (Option Value)) (st : List Value) (μ : am_Mem) (K : am_KK) : Prop := match st with
  | .int j :: .ref a :: rest => c (am_kd μ a).1 ∧ ¬ (j < 0 ∨ (am_kd μ a).2 ≤ j.toNatClampNeg) ∧ K (pc + 1) lv (.int (am_A μ a j.toNatClampNeg) :: rest) μ
  | _ => False
def am_wxs (c : Nat → Prop) (f : Nat → Int32 → Int32) (pc : Nat) (lv : List (Option Value)) (st : List Value) (μ : am_Mem) (K : am_KK) : Prop := match st with
  | .int x :: .int j :: .ref a :: rest => c (am_kd μ a).1 ∧ ¬ (j < 0 ∨ (am_kd μ a).2 ≤ j.toNatClampNeg) ∧ K (pc + 1) lv rest (am_pA μ a j.toNatClampNeg (f (am_kd μ a).1 x))
  | _ => False
def am_wfd (oc ix pc : Nat) (lv : List (Option Value)) (st : List Value) (μ : am_Mem) (K : am_KK) : Prop := match am_xg GG oc ix st with
  | some (v, rest) => K (pc + 3) lv (v :: rest) μ
  | none => match st, am_rf GG oc ix with
    | .ref a :: rest, some (ci, f) => am_kd μ a = (1, ci) ∧ match am_tk (am_ty ci f) with
      | 0 => K (pc + 3) lv (.int (am_A μ a f) :: rest) μ
      | 1 => K (pc + 3) lv (.long (am_L μ a f) :: rest) μ
      | 2 => ¬ am_F μ a f = 15 ∧ K (pc + 3) lv (.ref (am_F μ a f) :: rest) μ
      | _ => False
    | _, _ => False
def am_wpt (oc : Nat) (ini : Bool) (ix pc : Nat) (lv : List (Option Value)) (st : List Value) (μ : am_Mem) (K : am_KK) : Prop := match st, am_rf GG oc ix with
  | .int x :: .ref a :: rest, some (ci, f) => am_kd μ a = (1, ci) ∧ (narrow (am_ty ci f) (.int x) = .int x ∧ fits (am_ty ci f) (.int x) = true) ∧ (bif !(am_cF GG ci f) || (ini && Nat.beq ci oc) then K (pc + 3) lv rest (am_pA μ a f x) else False)
  | .long x :: .ref a :: rest, some (ci, f) => am_kd μ a = (1, ci) ∧ (narrow (am_ty ci f) (.long x) = .long x ∧ fits (am_ty ci f) (.long x) = true) ∧ (bif !(am_cF GG ci f) || (ini && Nat.beq ci oc) then K (pc + 3) lv rest (am_pL μ a f x) else False)
  | .ref x :: .ref a :: rest, some (ci, f) => am_kd μ a = (1, ci) ∧ ¬ x = 15 ∧ (bif (!(am_cF GG ci f) || (ini && Nat.beq ci oc)) && Nat.beq (am_tk (am_ty ci f)) 2 then K (pc + 3) lv rest (am_pR μ a f x) else False)
  | _, _ => False
def am_wiv (oc ix pc : Nat) (lv : List (Option Value)) (st : List Value) (μ : am_Mem) (K : am_KK) : Prop := match am_mi GG oc ix with
  | true => match st with
    | .int y :: .int x :: rest => (bif Nat.ble (rest.map fun v => v.category).sum 8 then K (pc + 3) lv (.int (if y < x then y else x) :: rest) μ else False)
    | _ => False
  | false => match st with
    | .int n :: .int dp :: .ref b :: .int sp :: .ref a :: rest => (bif am_ac GG oc ix && Nat.ble (rest.map fun v => v.category).sum 8 then ((((am_kd μ a).1 = 2 ∨ (am_kd μ a).1 = 8) ∧ (am_kd μ b).1 = 2) ∨ ((am_kd μ a).1 = 7 ∧ (am_kd μ b).1 = 7 ∧ ∀ i, i < n.toNatClampNeg → fits .short (.int (am_A μ a (sp.toNatClampNeg + i))) = true)) ∧ (¬ n < 0 ∧ ¬ dp < 0 ∧ ¬ sp < 0) ∧ (sp.toNatClampNeg + n.toNatClampNeg ≤ (am_kd μ a).2 ∧ dp.toNatClampNeg + n.toNatClampNeg ≤ (am_kd μ b).2) ∧ K (pc + 3) lv rest (am_wA μ b (am_cp (am_A μ a) (am_A μ b) sp.toNatClampNeg dp.toNatClampNeg n.toNatClampNeg)) else False)
    | _ => False
def am_wsw (dflt lo hi : Int) (offs : Array Int) (pc : Nat) (lv : List (Option Value)) (st : List Value) (μ : am_Mem) (K : am_KK) : Prop := match st with
  | .int x :: rest => ((x.toInt < lo ∨ hi < x.toInt) → match am_tgt pc dflt with
      | some t => K t lv rest μ
      | none => False) ∧ (¬ (x.toInt < lo ∨ hi < x.toInt) → ∃ off t, offs[(x.toInt - lo).toNat]? = some off ∧ am_tgt pc off = some t ∧ K t lv rest μ)
  | _ => False
/-- what must hold for one instruction to go on as K says -/
def am_w1 (oc nL : Nat) (ini : Bool) (pc : Nat) (i : Instr) (lv : List (Option Value)) (st : List Value) (μ : am_Mem) (K : am_KK) : Prop := match i with
  | .iconst n => K (pc + 1) lv (.int (Int32.ofInt n) :: st) μ
  | .bipush n => K (pc + 2) lv (.int (Int8.ofInt n).toInt32 :: st) μ
  | .sipush n => K (pc + 3) lv (.int (Int16.ofInt n).toInt32 :: st) μ
  | .lconst n => K (pc + 1) lv (.long (Int64.ofNat (n : Nat)) :: st) μ
  | .ldc ix => match am_ri GG oc ix with
    | some v => K (pc + 2) lv (.int v :: st) μ
    | none => match am_rt GG oc ix with
      | some r => K (pc + 2) lv (.ref r :: st) μ
      | none => False
  | .getstatic ix => match am_rs GG oc ix with
    | some v => K (pc + 3) lv (v :: st) μ
    | none => False
  | .invokestatic ix => am_wiv oc ix pc lv st μ K
  | .ldc_w ix => match am_ri GG oc ix with
    | some v => K (pc + 3) lv (.int v :: st) μ
    | none => False
  | .ldc2_w ix => match am_rl GG oc ix with
    | some v => K (pc + 3) lv (.long v :: st) μ
    | none => False
  | .iload_n k => am_wli 1 k pc lv st μ K
  | .iload k => am_wli 2 k pc lv st μ K
  | .lload_n k => am_wll 1 k pc lv st μ K
  | .lload k => am_wll 2 k pc lv st μ K
  | .aload_n k => am_wla 1 k pc lv st μ K
  | .aload k => am_wla 2 k pc lv st μ K
  | .istore_n k => am_wsi nL 1 k pc lv st μ K
  | .istore k => am_wsi nL 2 k pc lv st μ K
  | .lstore_n k => am_wsl nL 1 k pc lv st μ K
  | .lstore k => am_wsl nL 2 k pc lv st μ K
  | .astore_n k => am_wsa nL 1 k pc lv st μ K
  | .astore k => am_wsa nL 2 k pc lv st μ K
  | .iinc k n => match am_lget lv k with
    | some (.int x) => bif Nat.blt k nL then K (pc + 3) (am_set1 lv k (.int (x + Int32.ofInt n))) st μ else False
    | _ => False
  | .iadd => am_wi2 (fun x y => x + y) pc lv st μ K
  | .isub => am_wi2 (fun x y => x - y) pc lv st μ K
  | .imul => am_wi2 (fun x y => x * y) pc lv st μ K
  | .iand => am_wi2 (fun x y => x &&& y) pc lv st μ K
  | .ior => am_wi2 (fun x y => x ||| y) pc lv st μ K
  | .ixor => am_wi2 (fun x y => x ^^^ y) pc lv st μ K
  | .ishl => am_wi2 (fun x y => x <<< (y &&& 31)) pc lv st μ K
  | .ishr => am_wi2 (fun x y => x >>> (y &&& 31)) pc lv st μ K
  | .iushr => am_wi2 (fun x y => (x.toUInt32 >>> (y.toUInt32 &&& Int32.toUInt32 31)).toInt32) pc lv st μ K
  | .idiv => am_wi2z (fun x y => x / y) pc lv st μ K
  | .irem => am_wi2z (fun x y => x - x / y * y) pc lv st μ K
  | .ineg => am_wi1 (fun x => .int (-x)) pc lv st μ K
  | .ladd => am_wl2 (fun x y => x + y) pc lv st μ K
  | .lsub => am_wl2 (fun x y => x - y) pc lv st μ K
  | .lmul => am_wl2 (fun x y => x * y) pc lv st μ K
  | .land => am_wl2 (fun x y => x &&& y) pc lv st μ K
  | .lor => am_wl2 (fun x y => x ||| y) pc lv st μ K
  | .ldiv => am_wl2z (fun x y => x / y) pc lv st μ K
  | .lrem => am_wl2z (fun x y => x - x / y * y) pc lv st μ K
  | .lushr => am_wlsh (fun x y => (x.toUInt64 >>> (y.toInt64.toUInt64 &&& Int64.toUInt64 63)).toInt64) pc lv st μ K
  | .lshl => am_wlsh (fun x y => x <<< (y.toInt64 &&& 63)) pc lv st μ K
  | .lshr => am_wlsh (fun x y => x >>> (y.toInt64 &&& 63)) pc lv st μ K
  | .lcmp => match st with
    | .long y :: .long x :: rest => K (pc + 1) lv (.int (lg_cmp x y) :: rest) μ
    | _ => False
  | .i2l => am_wi1 (fun x => .long x.toInt64) pc lv st μ K
  | .i2b => am_wi1 (fun x => .int x.toInt8.toInt32) pc lv st μ K
  | .i2s => am_wi1 (fun x => .int x.toInt16.toInt32) pc lv st μ K
  | .i2c => am_wi1 (fun x => .int (x.toUInt32 % 65536).toInt32) pc lv st μ K
  | .l2i => match st with
    | .long x :: rest => K (pc + 1) lv (.int x.toInt32 :: rest) μ
    | _ => False
  | .dup => match st with
    | v :: rest => bif Nat.beq v.category 1 then K (pc + 1) lv (v :: v :: rest) μ else False
    | _ => False
  | .pop => match st with
    | v :: rest => bif Nat.beq v.category 1 then K (pc + 1) lv rest μ else False
    | _ => False
  | .dup_x1 => match st with
    | v :: w :: rest => bif Nat.beq v.category 1 && Nat.beq w.category 1 then K (pc + 1) lv (v :: w :: v :: rest) μ else False
    | _ => False
  | .dup2 => match st with
    | v :: w :: rest => bif Nat.beq v.category 1 && Nat.beq w.category 1 then K (pc + 1) lv (v :: w :: v :: w :: rest) μ else False
    | _ => False
  | .ifCond c off => match st with
    | .int x :: rest => am_wcd c x 0 pc off (fun t => K t lv rest μ)
    | _ => False
  | .if_icmp c off => match st with
    | .int y :: .int x :: rest => am_wcd c x y pc off (fun t => K t lv rest μ)
    | _ => False
  | .goto off => match am_tgt pc off with
    | some t => K t lv st μ
    | none => False
  | .tableswitch dflt lo hi offs => am_wsw dflt lo hi offs pc lv st μ K
  | .getfield ix => am_wfd oc ix pc lv st μ K
  | .putfield ix => am_wpt oc ini ix pc lv st μ K
  | .iaload => am_wxl (fun t => t = 2 ∨ t = 8) pc lv st μ K
  | .baload => am_wxl (fun t => t = 3 ∨ t = 4 ∨ t = 10) pc lv st μ K
  | .caload => am_wxl (fun t => t = 5) pc lv st μ K
  | .saload => am_wxl (fun t => t = 7) pc lv st μ K
  | .laload => match st with
    | .int j :: .ref a :: rest => (am_kd μ a).1 = 6 ∧ ¬ (j < 0 ∨ (am_kd μ a).2 ≤ j.toNatClampNeg) ∧ K (pc + 1) lv (.long (am_L μ a j.toNatClampNeg) :: rest) μ
    | _ => False
  | .iastore => am_wxs (fun t => t = 2) (fun _ x => x) pc lv st μ K
  | .bastore => am_wxs (fun t => t = 3 ∨ t = 4) am_nar pc lv st μ K
  | .castore => am_wxs (fun t => t = 5) (fun _ x => x.toUInt32.toUInt16.toUInt32.toInt32) pc lv st μ K
  | .sastore => am_wxs (fun t => t = 7) (fun _ x => x.toInt16.toInt32) pc lv st μ K
  | .lastore => match st with
    | .long x :: .int j :: .ref a :: rest => (am_kd μ a).1 = 6 ∧ ¬ (j < 0 ∨ (am_kd μ a).2 ≤ j.toNatClampNeg) ∧ K (pc + 1) lv rest (am_pL μ a j.toNatClampNeg x)
    | _ => False
  | .arraylength => match st with
    | .ref a :: rest => (2 ≤ (am_kd μ a).1 ∧ (am_kd μ a).1 ≤ 10 ∧ ¬ (am_kd μ a).1 = 9) ∧ K (pc + 1) lv (.int (Int32.ofNat (am_kd μ a).2) :: rest) μ
    | _ => False
  | .newarray t => match st with
    | .int x :: rest => bif !(Nat.beq (am_atg t) 0) then (¬ x < 0 ∧ x.toNatClampNeg ≤ 60000000) ∧ K (pc + 2) lv (.ref (am_n μ) :: rest) (am_nA μ (am_atg t) x.toNatClampNeg) else False
    | _ => False
  | .new ix => match am_rc GG oc ix with
    | some ci => K (pc + 3) lv (.ref (am_n μ) :: st) (am_nO μ ci (am_cN GG ci))
    | none => False
  | .invokespecial ix => match st with
    | .ref _ :: rest => bif am_ob GG oc ix && Nat.ble (rest.map fun v => v.category).sum 8 then K (pc + 3) lv rest μ else False
    | _ => False
  | _ => False
section WPS
variable {oc nL : Nat} {ini : Bool} {ret : Option FieldType} {pc len i t1 t2 t3 ix : Nat} {lv : List (Option Value)} {st : List Value} {μ : am_Mem} {K : am_KK}
def am_got (r : am_R) (K : am_KK) : Prop := ∃ pc' lv' st' μ', r = some (.inl (pc', lv', st', μ')) ∧ K pc' lv' st' μ'
theorem am_got.nx (h : K pc lv st μ) : am_got (am_nx pc lv st μ) K := ⟨_, _, _, _, rfl, h⟩
theorem am_bif {b : Bool} {P : Prop} (h : bif b then P else False) : b = true ∧ P := by
  cases b with
  | true => exact ⟨rfl, h⟩
  | false => exact h.elim
theorem am_wi2_ok {f : Int32 → Int32 → Int32} (h : am_wi2 f pc lv st μ K) : am_got (am_i2 f pc lv st μ) K := by
  unfold am_wi2 at h
  split at h
  · exact ⟨_, _, _, _, rfl, h⟩
  · exact h.elim
theorem am_wi2z_ok {f : Int32 → Int32 → Int32} (h : am_wi2z f pc lv st μ K) : am_got (am_i2z f pc lv st μ) K := by
  unfold am_wi2z at h
  split at h
  · refine ⟨_, _, _, _, ?_, h.2⟩
    unfold am_i2z
    simp only [if_neg h.1]
    rfl
  · exact h.elim
theorem am_wl2_ok {f : Int64 → Int64 → Int64} (h : am_wl2 f pc lv st μ K) : am_got (am_l2 f pc lv st μ) K := by
  unfold am_wl2 at h
  split at h
  · exact ⟨_, _, _, _, rfl, h⟩
  · exact h.elim
theorem am_wl2z_ok {f : Int64 → Int64 → Int64} (h : am_wl2z f pc lv st μ K) : am_got (am_l2z f pc lv st μ) K := by
  unfold am_wl2z at h
  split at h
  · refine ⟨_, _, _, _, ?_, h.2⟩
    unfold am_l2z
    simp only [if_neg h.1]
    rfl
  · exact h.elim
theorem am_wlsh_ok {f : Int64 → Int32 → Int64} (h : am_wlsh f pc lv st μ K) : am_got (am_lsh f pc lv st μ) K := by
  unfold am_wlsh at h
  split at h
  · exact ⟨_, _, _, _, rfl, h⟩
  · exact h.elim
theorem am_wi1_ok {f : Int32 → Value} (h : am_wi1 f pc lv st μ K) : am_got (am_i1 f pc lv st μ) K := by
  unfold am_wi1 at h
  split at h
  · exact ⟨_, _, _, _, rfl, h⟩
  · exact h.elim
theorem am_wli_ok (h : am_wli len i pc lv st μ K) : am_got (am_ild len i pc lv st μ) K := by
  unfold am_wli at h
  split at h
  · rename_i x hx
    refine ⟨_, _, _, _, ?_, h⟩
    unfold am_ild
    rw [hx]
    rfl
  · exact h.elim
theorem am_wll_ok (h : am_wll len i pc lv st μ K) : am_got (am_lld len i pc lv st μ) K := by
  unfold am_wll at h
  split at h
  · rename_i x hx
    refine ⟨_, _, _, _, ?_, h⟩
    unfold am_lld
    rw [hx]
    rfl
  · exact h.elim
theorem am_wla_ok (h : am_wla len i pc lv st μ K) : am_got (am_ald len i pc lv st μ) K := by
  unfold am_wla at h
  split at h
  · rename_i x hx
    refine ⟨_, _, _, _, ?_, h⟩
    unfold am_ald
    rw [hx]
    rfl
  · exact h.elim
theorem am_blt {a b : Nat} (h : Nat.blt a b = true) : a < b := by simpa [Nat.blt_eq] using h
theorem am_wsi_ok (h : am_wsi nL len i pc lv st μ K) : am_got (am_ist nL len i pc lv st μ) K := by
  unfold am_wsi at h
  split at h
  · obtain ⟨h1, h2⟩ := am_bif h
    refine ⟨_, _, _, _, ?_, h2⟩
    unfold am_ist
    simp only [if_pos (am_blt h1)]
    rfl
  · exact h.elim
theorem am_wsl_ok (h : am_wsl nL len i pc lv st μ K) : am_got (am_lst nL len i pc lv st μ) K := by
  unfold am_wsl at h
  split at h
  · obtain ⟨h1, h2⟩ := am_bif h
    refine ⟨_, _, _, _, ?_, h2⟩
    unfold am_lst
    simp only [if_pos (am_blt h1)]
    rfl
  · exact h.elim
theorem am_wsa_ok (h : am_wsa nL len i pc lv st μ K) : am_got (am_ast nL len i pc lv st μ) K := by
  unfold am_wsa at h
  split at h
  · obtain ⟨h1, h2⟩ := am_bif h
    refine ⟨_, _, _, _, ?_, h2⟩
    unfold am_ast
    simp only [if_pos (am_blt h1)]
    rfl
  · exact h.elim
theorem am_wxl_ok {c : Nat → Prop} (hc : ∀ t, c t → t = t1 ∨ t = t2 ∨ t = t3) (h : am_wxl c pc lv st μ K) : am_got (am_xld t1 t2 t3 pc lv st μ) K := by
  unfold am_wxl at h
  split at h
  · obtain ⟨h1, h2, h3⟩ := h
    refine ⟨_, _, _, _, ?_, h3⟩
    unfold am_xld
    simp only [if_pos (And.intro (hc _ h1) h2)]
    rfl
  · exact h.elim
theorem am_wxs_ok {c : Nat → Prop} {f : Nat → Int32 → Int32} (hc : ∀ t, c t → t = t1 ∨ t = t2) (hf : ∀ t x, c t → am_nar t x = f t x) (h : am_wxs c f pc lv st μ K) : am_got (am_xst t1 t2 pc lv st μ) K := by
  unfold am_wxs at h
  split at h
  · obtain ⟨h1, h2, h3⟩ := h
    refine ⟨_, _, _, _, ?_, h3⟩
    unfold am_xst
    simp only [if_pos (And.intro (hc _ h1) h2)]
    rw [hf _ _ h1]
    rfl
  · exact h.elim
theorem am_wfd_ok (h : am_wfd oc ix pc lv st μ K) : am_got (am_fldx GG oc ix pc lv st μ) K := by
  unfold am_wfd at h
  unfold am_fldx
  split at h
  · rename_i v rest hg
    simp only [hg]
    exact ⟨_, _, _, _, rfl, h⟩
  · rename_i hg
    simp only [hg]
    unfold am_fld
    split at h
    · rename_i a rest ci f hr
      obtain ⟨h1, h2⟩ := h
      simp only [hr, if_pos h1]
      split at h2
      · rename_i ht
        simp only [ht]
        exact ⟨_, _, _, _, rfl, h2⟩
      · rename_i ht
        simp only [ht]
        exact ⟨_, _, _, _, rfl, h2⟩
      · rename_i ht
        simp only [ht]
        rw [if_neg h2.1]
        exact ⟨_, _, _, _, rfl, h2.2⟩
      · exact h2.elim
    · exact h.elim
theorem am_fin {ini : Bool} {ci oc f : Nat} (h : (!(am_cF GG ci f) || (ini && Nat.beq ci oc)) = true) : am_cF GG ci f = false ∨ (ini = true ∧ ci = oc) := by
  cases hc : am_cF GG ci f with
  | false => exact Or.inl rfl
  | true =>
    rw [hc] at h
    simp only [Bool.not_true, Bool.false_or, Bool.and_eq_true] at h
    exact Or.inr ⟨h.1, Nat.eq_of_beq_eq_true h.2⟩
theorem am_wpt_ok (h : am_wpt oc ini ix pc lv st μ K) : am_got (am_put GG oc ini ix pc lv st μ) K := by
  unfold am_wpt at h
  unfold am_put
  split at h
  · rename_i x a rest ci f hx
    obtain ⟨h1, ⟨h2, h3⟩, h4⟩ := h
    obtain ⟨h5, h6⟩ := am_bif h4
    simp only [hx]
    rw [if_pos ⟨h1, h2, h3, rfl, am_fin h5⟩]
    exact ⟨_, _, _, _, rfl, h6⟩
  · rename_i x a rest ci f hx
    obtain ⟨h1, ⟨h2, h3⟩, h4⟩ := h
    obtain ⟨h5, h6⟩ := am_bif h4
    simp only [hx]
    rw [if_pos ⟨h1, h2, h3, rfl, am_fin h5⟩]
    exact ⟨_, _, _, _, rfl, h6⟩
  · rename_i x a rest ci f hx
    obtain ⟨h1, h2, h4⟩ := h
    obtain ⟨h5, h6⟩ := am_bif h4
    simp only [Bool.and_eq_true] at h5
    have ht : am_tk (am_ty ci f) = 2 := Nat.eq_of_beq_eq_true h5.2
    simp only [hx]
    have hn : narrow (am_ty ci f) (.ref x) = .ref x ∧ fits (am_ty ci f) (.ref x) = true := by
      generalize am_ty ci f = ty at ht
      cases ty <;> first | exact ⟨rfl, rfl⟩ | cases ht
    rw [if_pos ⟨h1, hn.1, hn.2, by simp [am_vk, h2], am_fin (by simpa using h5.1)⟩]
    exact ⟨_, _, _, _, rfl, h6⟩
  · exact h.elim
theorem am_wiv_ok (h : am_wiv oc ix pc lv st μ K) : am_got (am_ivs GG oc ix pc lv st μ) K := by
  unfold am_wiv at h
  unfold am_ivs
  split at h
  · rename_i hm
    simp only [hm]
    unfold am_mn
    split at h
    · obtain ⟨h1, h2⟩ := am_bif h
      simp only [if_pos (Nat.le_of_ble_eq_true h1)]
      exact ⟨_, _, _, _, rfl, h2⟩
    · exact h.elim
  · rename_i hm
    simp only [hm]
    unfold am_acp
    split at h
    · obtain ⟨h1, h2, h3, h4, h5⟩ := am_bif h
      simp only [Bool.and_eq_true] at h1
      simp only
      rw [if_pos ⟨h1.1, h2, h3, h4, Nat.le_of_ble_eq_true h1.2⟩]
      exact ⟨_, _, _, _, rfl, h5⟩
    · exact h.elim
theorem am_wbr_ok {b : Prop} [Decidable b] {off : Int} (h : am_wbr b pc off (fun t => K t lv st μ)) : am_got (am_br b pc off lv st μ) K := by
  unfold am_wbr at h
  unfold am_br
  split at h
  · rename_i t ht
    simp only [ht]
    by_cases hb : b
    · rw [if_pos hb]
      exact ⟨_, _, _, _, rfl, h.1 hb⟩
    · rw [if_neg hb]
      exact ⟨_, _, _, _, rfl, h.2 hb⟩
  · exact h.elim
theorem am_wcd_ok {c : ClassFile.Cond} {x y : Int32} {off : Int} (h : am_wcd c x y pc off (fun t => K t lv st μ)) : am_got (am_cond c x y pc off lv st μ) K := by
  cases c <;> exact am_wbr_ok h
theorem am_wjm_ok {off : Int} (h : match am_tgt pc off with
    | some t => K t lv st μ
    | none => False) : am_got (am_jmp pc off lv st μ) K := by
  unfold am_jmp
  split at h
  · rename_i t ht
    simp only [ht]
    exact ⟨_, _, _, _, rfl, h⟩
  · exact h.elim
theorem am_wsw_ok {dflt lo hi : Int} {offs : Array Int} (h : am_wsw dflt lo hi offs pc lv st μ K) : am_got (am_swt dflt lo hi offs pc lv st μ) K := by
  unfold am_wsw at h
  unfold am_swt
  split at h
  · rename_i x rest
    simp only
    by_cases hc : x.toInt < lo ∨ hi < x.toInt
    · rw [if_pos hc]
      exact am_wjm_ok (h.1 hc)
    · rw [if_neg hc]
      obtain ⟨off, t, h1, h2, h3⟩ := h.2 hc
      simp only [h1]
      unfold am_jmp
      simp only [h2]
      exact ⟨_, _, _, _, rfl, h3⟩
  · exact h.elim
set_option maxHeartbeats 1000000 in
theorem am_w1_ok {ii : Instr} (h : am_w1 oc nL ini pc ii lv st μ K) : am_got (am_step GG oc nL ini ret pc ii lv st μ) K := by
  cases ii with
  | iconst n => exact am_got.nx h
  | bipush n => exact am_got.nx h
  | sipush n => exact am_got.nx h
  | lconst n => exact am_got.nx h
  | ldc ix =>
    simp only [am_w1] at h
    simp only [am_step]
    split at h
    · rename_i v hv
      simp only [hv]
      exact am_got.nx h
    · rename_i hv
      simp only [hv]
      split at h
      · rename_i r hr
        simp only [hr]
        exact am_got.nx h
      · exact h.elim
  | getstatic ix =>
    simp only [am_w1] at h
    simp only [am_step]
    split at h
    · rename_i v hv
      simp only [hv]
      exact am_got.nx h
    · exact h.elim
  | invokestatic ix => exact am_wiv_ok h
  | ldc_w ix =>
    simp only [am_w1] at h
    simp only [am_step]
    split at h
    · rename_i v hv
      simp only [hv]
      exact am_got.nx h
    · exact h.elim
  | ldc2_w ix =>
    simp only [am_w1] at h
    simp only [am_step]
    split at h
    · rename_i v hv
      simp only [hv]
      exact am_got.nx h
    · exact h.elim
  | iload_n k => exact am_wli_ok h
  | iload k => exact am_wli_ok h
  | lload_n k => exact am_wll_ok h
  | lload k => exact am_wll_ok h
  | aload_n k => exact am_wla_ok h
  | aload k => exact am_wla_ok h
  | istore_n k => exact am_wsi_ok h
  | istore k => exact am_wsi_ok h
  | lstore_n k => exact am_wsl_ok h
  | lstore k => exact am_wsl_ok h
  | astore_n k => exact am_wsa_ok h
  | astore k => exact am_wsa_ok h
  | iinc k n =>
    simp only [am_w1] at h
    simp only [am_step]
    split at h
    · rename_i x hx
      obtain ⟨h1, h2⟩ := am_bif h
      simp only [hx, if_pos (am_blt h1)]
      exact am_got.nx h2
    · exact h.elim
  | iadd => exact am_wi2_ok h
  | isub => exact am_wi2_ok h
  | imul => exact am_wi2_ok h
  | iand => exact am_wi2_ok h
  | ior => exact am_wi2_ok h
  | ixor => exact am_wi2_ok h
  | ishl => exact am_wi2_ok h
  | ishr => exact am_wi2_ok h
  | iushr => exact am_wi2_ok h
  | idiv => exact am_wi2z_ok h
  | irem => exact am_wi2z_ok h
  | ineg => exact am_wi1_ok h
  | ladd => exact am_wl2_ok h
  | lsub => exact am_wl2_ok h
  | lmul => exact am_wl2_ok h
  | land => exact am_wl2_ok h
  | lor => exact am_wl2_ok h
  | ldiv => exact am_wl2z_ok h
  | lrem => exact am_wl2z_ok h
  | lushr => exact am_wlsh_ok h
  | lshl => exact am_wlsh_ok h
  | lshr => exact am_wlsh_ok h
  | i2l => exact am_wi1_ok h
  | i2b => exact am_wi1_ok h
  | i2s => exact am_wi1_ok h
  | i2c => exact am_wi1_ok h
  | lcmp =>
    simp only [am_w1] at h
    simp only [am_step]
    split at h
    · exact am_got.nx h
    · exact h.elim
  | l2i =>
    simp only [am_w1] at h
    simp only [am_step]
    split at h
    · exact am_got.nx h
    · exact h.elim
  | dup =>
    simp only [am_w1] at h
    simp only [am_step]
    split at h
    · obtain ⟨h1, h2⟩ := am_bif h
      simp only [if_pos (Nat.eq_of_beq_eq_true h1)]
      exact am_got.nx h2
    · exact h.elim
  | pop =>
    simp only [am_w1] at h
    simp only [am_step]
    split at h
    · obtain ⟨h1, h2⟩ := am_bif h
      simp only [if_pos (Nat.eq_of_beq_eq_true h1)]
      exact am_got.nx h2
    · exact h.elim
  | dup_x1 =>
    simp only [am_w1] at h
    simp only [am_step]
    split at h
    · obtain ⟨h1, h2⟩ := am_bif h
      simp only [Bool.and_eq_true] at h1
      simp only [if_pos (And.intro (Nat.eq_of_beq_eq_true h1.1) (Nat.eq_of_beq_eq_true h1.2))]
      exact am_got.nx h2
    · exact h.elim
  | dup2 =>
    simp only [am_w1] at h
    simp only [am_step]
    split at h
    · obtain ⟨h1, h2⟩ := am_bif h
      simp only [Bool.and_eq_true] at h1
      simp only [if_pos (And.intro (Nat.eq_of_beq_eq_true h1.1) (Nat.eq_of_beq_eq_true h1.2))]
      exact am_got.nx h2
    · exact h.elim
  | ifCond c off =>
    simp only [am_w1] at h
    simp only [am_step]
    split at h
    · exact am_wcd_ok h
    · exact h.elim
  | if_icmp c off =>
    simp only [am_w1] at h
    simp only [am_step]
    split at h
    · exact am_wcd_ok h
    · exact h.elim
  | goto off => exact am_wjm_ok h
  | tableswitch dflt lo hi offs => exact am_wsw_ok h
  | getfield ix => exact am_wfd_ok h
  | putfield ix => exact am_wpt_ok h
  | iaload => exact am_wxl_ok (c := fun t => t = 2 ∨ t = 8) (fun t h => h.elim Or.inl fun h => Or.inr (Or.inl h)) h
  | baload => exact am_wxl_ok (c := fun t => t = 3 ∨ t = 4 ∨ t = 10) (fun t h => h) h
  | caload => exact am_wxl_ok (c := fun t => t = 5) (fun t h => Or.inl h) h
  | saload => exact am_wxl_ok (c := fun t => t = 7) (fun t h => Or.inl h) h
  | laload =>
    simp only [am_w1] at h
    simp only [am_step, am_xll]
    split at h
    · obtain ⟨h1, h2, h3⟩ := h
      simp only
      rw [if_pos ⟨h1, h2⟩]
      exact am_got.nx h3
    · exact h.elim
  | iastore => exact am_wxs_ok (c := fun t => t = 2) (f := fun _ x => x) (fun t h => Or.inl h) (fun t x h => by subst h; rfl) h
  | bastore => exact am_wxs_ok (c := fun t => t = 3 ∨ t = 4) (f := am_nar) (fun t h => h) (fun t x h => rfl) h
  | castore => exact am_wxs_ok (c := fun t => t = 5) (f := fun _ x => x.toUInt32.toUInt16.toUInt32.toInt32) (fun t h => Or.inl h) (fun t x h => by subst h; rfl) h
  | sastore => exact am_wxs_ok (c := fun t => t = 7) (f := fun _ x => x.toInt16.toInt32) (fun t h => Or.inl h) (fun t x h => by subst h; rfl) h
  | lastore =>
    simp only [am_w1] at h
    simp only [am_step, am_xsl]
    split at h
    · obtain ⟨h1, h2, h3⟩ := h
      simp only
      rw [if_pos ⟨h1, h2⟩]
      exact am_got.nx h3
    · exact h.elim
  | arraylength =>
    simp only [am_w1] at h
    simp only [am_step]
    split at h
    · simp only
      rw [if_pos h.1]
      exact am_got.nx h.2
    · exact h.elim
  | newarray t =>
    simp only [am_w1] at h
    simp only [am_step, am_new]
    split at h
    · obtain ⟨h1, ⟨h2, h3⟩, h4⟩ := am_bif h
      simp only
      have h0 : ¬ am_atg t = 0 := by
        intro e
        rw [e] at h1
        cases h1
      rw [if_pos ⟨h0, h2, h3⟩]
      exact am_got.nx h4
    · exact h.elim
  | new ix =>
    simp only [am_w1] at h
    simp only [am_step, am_nob]
    split at h
    · rename_i ci hci
      simp only [hci]
      exact am_got.nx h
    · exact h.elim
  | invokespecial ix =>
    simp only [am_w1] at h
    simp only [am_step, am_obi]
    split at h
    · obtain ⟨h1, h2⟩ := am_bif h
      simp only [Bool.and_eq_true] at h1
      simp only
      rw [if_pos ⟨h1.1, Nat.le_of_ble_eq_true h1.2⟩]
      exact am_got.nx h2
    · exact h.elim
  | _ => exact h.elim
end WPS
/-- instructions one behind the other -/
def am_wl (oc nL : Nat) (ini : Bool) : List (Nat × Instr × Nat) → Nat → List (Option Value) → List Value → am_Mem → am_KK → Prop
  | [], pc, lv, st, μ, K => K pc lv st μ
  | q :: l, pc, lv, st, μ, K => bif Nat.beq q.1 pc then am_w1 oc nL ini pc q.2.1 lv st μ (fun pc' lv' st' μ' => am_wl oc nL ini l pc' lv' st' μ' K) else False
/-- no call, no throw -/
def am_pln (oc : Nat) (i : Instr) : Bool := match i with
  | .invokestatic ix => (am_rm GG oc ix).isNone
  | .invokespecial ix => (am_rm GG oc ix).isNone
  | .invokevirtual _ => false
  | .new ix => (am_rc GG oc ix).isSome
  | _ => true
/-- the block stands in the code so, and holds neither calls nor throws -/
def am_dec (M : am_M) (l : List (Nat × Instr × Nat)) : Bool := l.all fun q => (match decode (am_Mc M) q.1 with
  | .ok (i, len) => decide (i = q.2.1) && Nat.beq len q.2.2
  | _ => false) && am_lok q.2.1 q.2.2 && am_pln (am_Mo M) q.2.1
theorem am_tt_rc : ∀ e ∈ am_tt, ∀ q ∈ e.2, am_rc GG e.1 q.1 = none := by decide +kernel
theorem am_callee_none {oc : Nat} {i : Instr} {st : List Value} {μ : am_Mem} (h : am_pln oc i = true) : am_callee GG oc i st μ = none := by
  cases i with
  | invokestatic ix =>
    have h1 : am_rm GG oc ix = none := Option.isNone_iff_eq_none.mp h
    simp only [am_callee, h1]
  | invokespecial ix =>
    have h1 : am_rm GG oc ix = none := Option.isNone_iff_eq_none.mp h
    simp only [am_callee, h1]
  | invokevirtual ix => cases h
  | _ => rfl
theorem am_throw_none {oc k pc : Nat} {i : Instr} (h : am_pln oc i = true) : am_throw GG oc k pc i = none := by
  cases i with
  | new ik =>
    have h1 : (am_rc GG oc ik).isSome = true := h
    have key : ∀ is ic, am_th GG oc ik is ic = none := by
      intro is ic
      show am_fT oc ik is ic = none
      unfold am_fT
      split
      · rename_i q tx hq hs
        have := am_lk2_mem hq (P := fun a b _ => am_rc GG a b = none) am_tt_rc
        rw [this] at h1
        cases h1
      · rfl
    simp only [am_throw]
    split
    · split
      · exact key _ _
      · rfl
    · split
      · exact key _ _
      · rfl
    · rfl
  | _ => rfl
theorem am_run1 {M : am_M} {n d k pc len : Nat} {i : Instr} {lv : List (Option Value)} {st : List Value} {μ : am_Mem} {cf : am_C} {r : (Option Value ⊕ Nat) × am_Mem} (hM : am_mt GG k = some M) (hd : decode (am_Mc M) pc = .ok (i, len)) (hp : am_pln (am_Mo M) i = true) (hl : am_lok i len = true) (hs : am_step GG (am_Mo M) (am_Ml M) (decide ((am_My M).name = "<init>")) (am_Mr M) pc i lv st μ = some (.inl cf)) (h : am_run GG n d k cf = some r) : am_run GG (n + 1) d k (pc, lv, st, μ) = some r := by
  unfold am_run
  simp only [hM, hd, am_callee_none hp, am_throw_none hp, hs]
  rw [if_pos hl]
  exact h
theorem wp_blk {M : am_M} {d k pc : Nat} {lv : List (Option Value)} {st : List Value} {μ : am_Mem} {Q : Option Value ⊕ Nat → am_Mem → Prop} (hM : am_mt GG k = some M) {l : List (Nat × Instr × Nat)} (hd : am_dec M l = true) (h : am_wl (am_Mo M) (am_Ml M) (decide ((am_My M).name = "<init>")) l pc lv st μ (fun pc' lv' st' μ' => Wp d k (pc', lv', st', μ') Q)) : Wp d k (pc, lv, st, μ) Q := by
  induction l generalizing pc lv st μ with
  | nil => exact h
  | cons q l ih =>
    obtain ⟨p, i, len⟩ := q
    unfold am_wl at h
    obtain ⟨h1, h2⟩ := am_bif h
    obtain rfl := Nat.eq_of_beq_eq_true h1
    simp only [am_dec, List.all_cons, Bool.and_eq_true] at hd
    obtain ⟨⟨⟨d1, d2⟩, d3⟩, d4⟩ := hd
    have hdec : decode (am_Mc M) p = .ok (i, len) := by
      split at d1
      · rename_i i2 len2 he
        simp only [Bool.and_eq_true, decide_eq_true_eq] at d1
        rw [he, d1.1, Nat.eq_of_beq_eq_true d1.2]
      · cases d1
    obtain ⟨pc', lv', st', μ', hs, hk⟩ := am_w1_ok (ret := am_Mr M) h2
    obtain ⟨n, o, μ2, hr, hq⟩ := ih (by simpa [am_dec] using d4) hk
    exact ⟨n + 1, o, μ2, am_run1 hM hdec d3 d2 hs hr, hq⟩
def am_retv (ret : Option FieldType) (i : Instr) (st : List Value) : Option (Option Value) := match i, st, ret with
  | .ireturn, [.int x], some ty => if narrow ty (.int x) = .int x ∧ fits ty (.int x) = true then some (some (.int x)) else none
  | .lreturn, [.long x], some .long => some (some (.long x))
  | .areturn, [.ref a], some (.array _) => some (some (.ref a))
  | .areturn, [.ref a], some (.object _) => some (some (.ref a))
  | .return_, [], none => some none
  | _, _, _ => none
theorem wp_ret {M : am_M} {d k pc len : Nat} {i : Instr} {lv : List (Option Value)} {st : List Value} {μ : am_Mem} {v : Option Value} {Q : Option Value ⊕ Nat → am_Mem → Prop} (hM : am_mt GG k = some M) (hd : am_dec M [(pc, i, len)] = true) (hs : am_step GG (am_Mo M) (am_Ml M) (decide ((am_My M).name = "<init>")) (am_Mr M) pc i lv st μ = some (.inr (v, μ))) (hq : Q (.inl v) μ) : Wp d k (pc, lv, st, μ) Q := by
  simp only [am_dec, List.all_cons, Bool.and_eq_true] at hd
  obtain ⟨⟨⟨d1, d2⟩, d3⟩, -⟩ := hd
  have hdec : decode (am_Mc M) pc = .ok (i, len) := by
    split at d1
    · rename_i i2 len2 he
      simp only [Bool.and_eq_true, decide_eq_true_eq] at d1
      rw [he, d1.1, Nat.eq_of_beq_eq_true d1.2]
    · cases d1
  refine ⟨1, .inl v, μ, ?_, hq⟩
  unfold am_run
  simp only [hM, hdec, am_callee_none d3, am_throw_none d3, hs]
  rw [if_pos d2]
