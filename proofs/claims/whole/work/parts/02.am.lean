/-! ===== a small machine over a memory of numbered cells: its words ===== -/
/-- cells made (from 16 on), slots made, each cell's kind, ints of objects and arrays, longs of objects and arrays, references of objects (15: null) -/
abbrev am_Mem : Type := Nat × Nat × (Nat → Nat × Nat) × (Nat → Nat → Int32) × (Nat → Nat → Int64) × (Nat → Nat → Nat)
abbrev am_n (μ : am_Mem) : Nat := μ.1
abbrev am_sl (μ : am_Mem) : Nat := μ.2.1
abbrev am_kd (μ : am_Mem) : Nat → Nat × Nat := μ.2.2.1
abbrev am_A (μ : am_Mem) : Nat → Nat → Int32 := μ.2.2.2.1
abbrev am_L (μ : am_Mem) : Nat → Nat → Int64 := μ.2.2.2.2.1
abbrev am_F (μ : am_Mem) : Nat → Nat → Nat := μ.2.2.2.2.2
/-- 0 an int, 1 a long, 2 a reference -/
def am_tk : FieldType → Nat
  | .long => 1
  | .object _ => 2
  | .array _ => 2
  | .float => 3
  | .double => 3
  | _ => 0
def am_fv (ty : FieldType) (x : Int32) (y : Int64) (r : Nat) : Value := match am_tk ty with
  | 0 => .int x
  | 1 => .long y
  | 2 => if r = 15 then .null else .ref r
  | _ => defaultValue ty
def am_O (μ : am_Mem) (r j : Nat) : Value := am_fv (am_ty (am_kd μ r).2 j) (am_A μ r j) (am_L μ r j) (am_F μ r j)
def am_u2 {α : Type} (f : Nat → Nat → α) (a k : Nat) (v : α) : Nat → Nat → α := fun x y => if x = a ∧ y = k then v else f x y
def am_u1 {α : Type} (f : Nat → α) (a : Nat) (v : α) : Nat → α := fun x => if x = a then v else f x
def am_pA (μ : am_Mem) (a j : Nat) (x : Int32) : am_Mem := (am_n μ, am_sl μ, am_kd μ, am_u2 (am_A μ) a j x, am_L μ, am_F μ)
def am_pL (μ : am_Mem) (a j : Nat) (x : Int64) : am_Mem := (am_n μ, am_sl μ, am_kd μ, am_A μ, am_u2 (am_L μ) a j x, am_F μ)
def am_pR (μ : am_Mem) (a j : Nat) (x : Nat) : am_Mem := (am_n μ, am_sl μ, am_kd μ, am_A μ, am_L μ, am_u2 (am_F μ) a j x)
def am_pO (μ : am_Mem) (a f : Nat) (v : Value) : am_Mem := match v with
  | .int x => am_pA μ a f x
  | .long x => am_pL μ a f x
  | .ref x => am_pR μ a f x
  | _ => μ
def am_vk (v : Value) : Bool := match v with
  | .int _ => true
  | .long _ => true
  | .ref r => !(r == 15)
  | _ => false
def am_nO (μ : am_Mem) (ci N : Nat) : am_Mem := (am_n μ + 1, am_sl μ + N, am_u1 (am_kd μ) (am_n μ) (1, ci), am_u1 (am_A μ) (am_n μ) (fun _ => 0), am_u1 (am_L μ) (am_n μ) (fun _ => 0), am_u1 (am_F μ) (am_n μ) (fun _ => 15))
def am_nA (μ : am_Mem) (t N : Nat) : am_Mem := (am_n μ + 1, am_sl μ + N, am_u1 (am_kd μ) (am_n μ) (t, N), am_u1 (am_A μ) (am_n μ) (fun _ => 0), am_u1 (am_L μ) (am_n μ) (fun _ => 0), am_F μ)
def am_nX (μ : am_Mem) : am_Mem := (am_n μ + 1, am_sl μ + 6, am_kd μ, am_A μ, am_L μ, am_F μ)
/-- a method: name, code, locals, what it returns, the number of its class, how many parameters, handlers -/
abbrev am_M : Type := MethodName × ByteArray × Nat × Option FieldType × Nat × Nat × List (Nat × Nat × Nat × Nat) × Nat
abbrev am_My (M : am_M) : MethodName := M.1
abbrev am_Mc (M : am_M) : ByteArray := M.2.1
abbrev am_Ml (M : am_M) : Nat := M.2.2.1
abbrev am_Mr (M : am_M) : Option FieldType := M.2.2.2.1
abbrev am_Mo (M : am_M) : Nat := M.2.2.2.2.1
abbrev am_Ma (M : am_M) : Nat := M.2.2.2.2.2.1
abbrev am_Mh (M : am_M) : List (Nat × Nat × Nat × Nat) := M.2.2.2.2.2.2.1
/-- 0 static, 1 of an object, 2 a constructor -/
abbrev am_Mk (M : am_M) : Nat := M.2.2.2.2.2.2.2
/-- the tables: methods; fields; methods by link; classes by link; ints; longs; statics; Object's constructor; throws (class, text, constructor); catches; a class's number of fields; final fields; texts; fields of objects from before; classes of objects from before; System.arraycopy; Math.min -/
abbrev am_G : Type := (Nat → Option am_M) × (Nat → Nat → Option (Nat × Nat)) × (Nat → Nat → Option Nat) × (Nat → Nat → Option Nat) × (Nat → Nat → Option Int32) × (Nat → Nat → Option Int64) × (Nat → Nat → Option Value) × (Nat → Nat → Bool) × (Nat → Nat → Nat → Nat → Option Nat) × (Nat → Nat → Nat → Option Bool) × (Nat → Nat) × (Nat → Nat → Bool) × (Nat → Nat → Option Nat) × (Nat → Nat → Nat → Option Value) × (Nat → Option Nat) × (Nat → Nat → Bool) × (Nat → Nat → Bool)
abbrev am_mt (G : am_G) : Nat → Option am_M := G.1
abbrev am_rf (G : am_G) : Nat → Nat → Option (Nat × Nat) := G.2.1
abbrev am_rm (G : am_G) : Nat → Nat → Option Nat := G.2.2.1
abbrev am_rc (G : am_G) : Nat → Nat → Option Nat := G.2.2.2.1
abbrev am_ri (G : am_G) : Nat → Nat → Option Int32 := G.2.2.2.2.1
abbrev am_rl (G : am_G) : Nat → Nat → Option Int64 := G.2.2.2.2.2.1
abbrev am_rs (G : am_G) : Nat → Nat → Option Value := G.2.2.2.2.2.2.1
abbrev am_ob (G : am_G) : Nat → Nat → Bool := G.2.2.2.2.2.2.2.1
abbrev am_th (G : am_G) : Nat → Nat → Nat → Nat → Option Nat := G.2.2.2.2.2.2.2.2.1
abbrev am_ct (G : am_G) : Nat → Nat → Nat → Option Bool := G.2.2.2.2.2.2.2.2.2.1
abbrev am_cN (G : am_G) : Nat → Nat := G.2.2.2.2.2.2.2.2.2.2.1
abbrev am_cF (G : am_G) : Nat → Nat → Bool := G.2.2.2.2.2.2.2.2.2.2.2.1
abbrev am_rt (G : am_G) : Nat → Nat → Option Nat := G.2.2.2.2.2.2.2.2.2.2.2.2.1
abbrev am_xf (G : am_G) : Nat → Nat → Nat → Option Value := G.2.2.2.2.2.2.2.2.2.2.2.2.2.1
abbrev am_xo (G : am_G) : Nat → Option Nat := G.2.2.2.2.2.2.2.2.2.2.2.2.2.2.1
abbrev am_ac (G : am_G) : Nat → Nat → Bool := G.2.2.2.2.2.2.2.2.2.2.2.2.2.2.2.1
abbrev am_mi (G : am_G) : Nat → Nat → Bool := G.2.2.2.2.2.2.2.2.2.2.2.2.2.2.2.2
def am_len : Instr → Nat
  | .bipush _ => 2
  | .sipush _ => 3
  | .ldc _ => 2
  | .ldc_w _ => 3
  | .ldc2_w _ => 3
  | .iload _ => 2
  | .lload _ => 2
  | .aload _ => 2
  | .istore _ => 2
  | .lstore _ => 2
  | .astore _ => 2
  | .iinc _ _ => 3
  | .ifCond _ _ => 3
  | .if_icmp _ _ => 3
  | .goto _ => 3
  | .getfield _ => 3
  | .putfield _ => 3
  | .getstatic _ => 3
  | .new _ => 3
  | .newarray _ => 2
  | .invokevirtual _ => 3
  | .invokestatic _ => 3
  | .invokespecial _ => 3
  | _ => 1
abbrev am_C : Type := Nat × List (Option Value) × List Value × am_Mem
/-- the next state of a frame, or the end with what is returned -/
abbrev am_R : Type := Option (am_C ⊕ (Option Value × am_Mem))
/-- the locals, place by place -/
def am_lget : List (Option Value) → Nat → Option Value
  | [], _ => none
  | o :: _, 0 => o
  | _ :: l, n + 1 => am_lget l n
def am_lset : List (Option Value) → Nat → Option Value → List (Option Value)
  | [], _, _ => []
  | _ :: l, 0, v => v :: l
  | o :: l, n + 1, v => o :: am_lset l n v
/-- a long that ends here is no longer one -/
def am_clr (lv : List (Option Value)) (i : Nat) : List (Option Value) := match i with
  | 0 => lv
  | n + 1 => match am_lget lv n with
    | some v => if v.category = 2 then am_lset lv n none else lv
    | none => lv
def am_set1 (lv : List (Option Value)) (i : Nat) (v : Value) : List (Option Value) := am_lset (am_clr lv i) i (some v)
def am_set2 (lv : List (Option Value)) (i : Nat) (v : Value) : List (Option Value) := am_lset (am_lset (am_clr lv i) i (some v)) (i + 1) none
def am_drp (lv : List (Option Value)) (i : Nat) : List (Option Value) := am_lset (am_clr lv i) i none
def am_lay : List Value → List (Option Value)
  | [] => []
  | v :: vs => if v.category = 2 then some v :: none :: am_lay vs else some v :: am_lay vs
def am_pad : Nat → List (Option Value) → List (Option Value)
  | 0, l => l
  | n + 1, [] => none :: am_pad n []
  | n + 1, o :: l => o :: am_pad n l
def am_tgt (pc : Nat) (off : Int) : Option Nat := if 0 ≤ (pc : Int) + off then some ((pc : Int) + off).toNat else none
def am_jmp (pc : Nat) (off : Int) (lv : List (Option Value)) (st : List Value) (μ : am_Mem) : am_R := match am_tgt pc off with
  | some t => some (.inl (t, lv, st, μ))
  | none => none
def am_nx (pc : Nat) (lv : List (Option Value)) (st : List Value) (μ : am_Mem) : am_R := some (.inl (pc, lv, st, μ))
def am_br (b : Prop) [Decidable b] (pc : Nat) (off : Int) (lv : List (Option Value)) (st : List Value) (μ : am_Mem) : am_R := match am_tgt pc off with
  | some t => if b then am_nx t lv st μ else am_nx (pc + 3) lv st μ
  | none => none
def am_i2 (f : Int32 → Int32 → Int32) (pc : Nat) (lv : List (Option Value)) (st : List Value) (μ : am_Mem) : am_R := match st with
  | .int y :: .int x :: rest => am_nx (pc + 1) lv (.int (f x y) :: rest) μ
  | _ => none
def am_i2z (f : Int32 → Int32 → Int32) (pc : Nat) (lv : List (Option Value)) (st : List Value) (μ : am_Mem) : am_R := match st with
  | .int y :: .int x :: rest => if y = 0 then none else am_nx (pc + 1) lv (.int (f x y) :: rest) μ
  | _ => none
def am_l2 (f : Int64 → Int64 → Int64) (pc : Nat) (lv : List (Option Value)) (st : List Value) (μ : am_Mem) : am_R := match st with
  | .long y :: .long x :: rest => am_nx (pc + 1) lv (.long (f x y) :: rest) μ
  | _ => none
def am_l2z (f : Int64 → Int64 → Int64) (pc : Nat) (lv : List (Option Value)) (st : List Value) (μ : am_Mem) : am_R := match st with
  | .long y :: .long x :: rest => if y = 0 then none else am_nx (pc + 1) lv (.long (f x y) :: rest) μ
  | _ => none
def am_lsh (f : Int64 → Int32 → Int64) (pc : Nat) (lv : List (Option Value)) (st : List Value) (μ : am_Mem) : am_R := match st with
  | .int y :: .long x :: rest => am_nx (pc + 1) lv (.long (f x y) :: rest) μ
  | _ => none
def am_i1 (f : Int32 → Value) (pc : Nat) (lv : List (Option Value)) (st : List Value) (μ : am_Mem) : am_R := match st with
  | .int x :: rest => am_nx (pc + 1) lv (f x :: rest) μ
  | _ => none
def am_ild (len i pc : Nat) (lv : List (Option Value)) (st : List Value) (μ : am_Mem) : am_R := match am_lget lv i with
  | some (.int x) => am_nx (pc + len) lv (.int x :: st) μ
  | _ => none
def am_lld (len i pc : Nat) (lv : List (Option Value)) (st : List Value) (μ : am_Mem) : am_R := match am_lget lv i with
  | some (.long x) => am_nx (pc + len) lv (.long x :: st) μ
  | _ => none
def am_ald (len i pc : Nat) (lv : List (Option Value)) (st : List Value) (μ : am_Mem) : am_R := match am_lget lv i with
  | some (.ref x) => am_nx (pc + len) lv (.ref x :: st) μ
  | _ => none
def am_ist (nL len i pc : Nat) (lv : List (Option Value)) (st : List Value) (μ : am_Mem) : am_R := match st with
  | .int x :: rest => if i < nL then am_nx (pc + len) (am_set1 lv i (.int x)) rest μ else none
  | _ => none
def am_lst (nL len i pc : Nat) (lv : List (Option Value)) (st : List Value) (μ : am_Mem) : am_R := match st with
  | .long x :: rest => if i + 1 < nL then am_nx (pc + len) (am_set2 lv i (.long x)) rest μ else none
  | _ => none
def am_ast (nL len i pc : Nat) (lv : List (Option Value)) (st : List Value) (μ : am_Mem) : am_R := match st with
  | .ref x :: rest => if i < nL then am_nx (pc + len) (am_set1 lv i (.ref x)) rest μ else none
  | _ => none
def am_xld (t1 t2 t3 pc : Nat) (lv : List (Option Value)) (st : List Value) (μ : am_Mem) : am_R := match st with
  | .int j :: .ref a :: rest => if ((am_kd μ a).1 = t1 ∨ (am_kd μ a).1 = t2 ∨ (am_kd μ a).1 = t3) ∧ ¬ (j < 0 ∨ (am_kd μ a).2 ≤ j.toNatClampNeg) then am_nx (pc + 1) lv (.int (am_A μ a j.toNatClampNeg) :: rest) μ else none
  | _ => none
def am_xll (pc : Nat) (lv : List (Option Value)) (st : List Value) (μ : am_Mem) : am_R := match st with
  | .int j :: .ref a :: rest => if (am_kd μ a).1 = 6 ∧ ¬ (j < 0 ∨ (am_kd μ a).2 ≤ j.toNatClampNeg) then am_nx (pc + 1) lv (.long (am_L μ a j.toNatClampNeg) :: rest) μ else none
  | _ => none
def am_nar (t : Nat) (x : Int32) : Int32 := if t = 2 then x else if t = 3 then x.toInt8.toInt32 else if t = 4 then x &&& 1 else if t = 7 then x.toInt16.toInt32 else x.toUInt32.toUInt16.toUInt32.toInt32
def am_xst (t1 t2 pc : Nat) (lv : List (Option Value)) (st : List Value) (μ : am_Mem) : am_R := match st with
  | .int x :: .int j :: .ref a :: rest => if ((am_kd μ a).1 = t1 ∨ (am_kd μ a).1 = t2) ∧ ¬ (j < 0 ∨ (am_kd μ a).2 ≤ j.toNatClampNeg) then am_nx (pc + 1) lv rest (am_pA μ a j.toNatClampNeg (am_nar (am_kd μ a).1 x)) else none
  | _ => none
def am_xsl (pc : Nat) (lv : List (Option Value)) (st : List Value) (μ : am_Mem) : am_R := match st with
  | .long x :: .int j :: .ref a :: rest => if (am_kd μ a).1 = 6 ∧ ¬ (j < 0 ∨ (am_kd μ a).2 ≤ j.toNatClampNeg) then am_nx (pc + 1) lv rest (am_pL μ a j.toNatClampNeg x) else none
  | _ => none
/-- the kind of an array by what newarray names -/
def am_atg : ArrayType → Nat
  | .boolean => 4
  | .char => 5
  | .byte => 3
  | .int => 2
  | .long => 6
  | .short => 7
  | _ => 0
def am_new (t pc : Nat) (lv : List (Option Value)) (st : List Value) (μ : am_Mem) : am_R := match st with
  | .int x :: rest => if ¬ t = 0 ∧ ¬ x < 0 ∧ x.toNatClampNeg ≤ 60000000 then am_nx (pc + 2) lv (.ref (am_n μ) :: rest) (am_nA μ t x.toNatClampNeg) else none
  | _ => none
def am_fld (G : am_G) (oc ix pc : Nat) (lv : List (Option Value)) (st : List Value) (μ : am_Mem) : am_R := match st, am_rf G oc ix with
  | .ref a :: rest, some (ci, f) => if am_kd μ a = (1, ci) then match am_tk (am_ty ci f) with
      | 0 => am_nx (pc + 3) lv (.int (am_A μ a f) :: rest) μ
      | 1 => am_nx (pc + 3) lv (.long (am_L μ a f) :: rest) μ
      | 2 => if am_F μ a f = 15 then none else am_nx (pc + 3) lv (.ref (am_F μ a f) :: rest) μ
      | _ => none
    else none
  | _, _ => none
/-- a field of an object from before -/
def am_xg (G : am_G) (oc ix : Nat) (st : List Value) : Option (Value × List Value) := match st with
  | .ref a :: rest => match am_xf G oc ix a with
    | some v => some (v, rest)
    | none => none
  | _ => none
def am_fldx (G : am_G) (oc ix pc : Nat) (lv : List (Option Value)) (st : List Value) (μ : am_Mem) : am_R := match am_xg G oc ix st with
  | some (v, rest) => am_nx (pc + 3) lv (v :: rest) μ
  | none => am_fld G oc ix pc lv st μ
def am_wA (μ : am_Mem) (a : Nat) (g : Nat → Int32) : am_Mem := (am_n μ, am_sl μ, am_kd μ, am_u1 (am_A μ) a g, am_L μ, am_F μ)
def am_cp (f g : Nat → Int32) (sp dp n : Nat) : Nat → Int32 := fun y => if dp ≤ y ∧ y < dp + n then f (sp + (y - dp)) else g y
/-- System.arraycopy of ints or shorts -/
def am_acp (G : am_G) (oc ix pc : Nat) (lv : List (Option Value)) (st : List Value) (μ : am_Mem) : am_R := match st with
  | .int n :: .int dp :: .ref b :: .int sp :: .ref a :: rest => if am_ac G oc ix = true ∧ ((((am_kd μ a).1 = 2 ∨ (am_kd μ a).1 = 8) ∧ (am_kd μ b).1 = 2) ∨ ((am_kd μ a).1 = 7 ∧ (am_kd μ b).1 = 7 ∧ ∀ i, i < n.toNatClampNeg → fits .short (.int (am_A μ a (sp.toNatClampNeg + i))) = true)) ∧ (¬ n < 0 ∧ ¬ dp < 0 ∧ ¬ sp < 0) ∧ (sp.toNatClampNeg + n.toNatClampNeg ≤ (am_kd μ a).2 ∧ dp.toNatClampNeg + n.toNatClampNeg ≤ (am_kd μ b).2) ∧ (rest.map fun v => v.category).sum ≤ 8
    then am_nx (pc + 3) lv rest (am_wA μ b (am_cp (am_A μ a) (am_A μ b) sp.toNatClampNeg dp.toNatClampNeg n.toNatClampNeg)) else none
  | _ => none
/-- Math.min -/
def am_mn (pc : Nat) (lv : List (Option Value)) (st : List Value) (μ : am_Mem) : am_R := match st with
  | .int y :: .int x :: rest => if (rest.map fun v => v.category).sum ≤ 8 then am_nx (pc + 3) lv (.int (if y < x then y else x) :: rest) μ else none
  | _ => none
def am_ivs (G : am_G) (oc ix pc : Nat) (lv : List (Option Value)) (st : List Value) (μ : am_Mem) : am_R := match am_mi G oc ix with
  | true => am_mn pc lv st μ
  | false => am_acp G oc ix pc lv st μ
def am_put (G : am_G) (oc : Nat) (ini : Bool) (ix pc : Nat) (lv : List (Option Value)) (st : List Value) (μ : am_Mem) : am_R := match st, am_rf G oc ix with
  | v :: .ref a :: rest, some (ci, f) => if am_kd μ a = (1, ci) ∧ narrow (am_ty ci f) v = v ∧ fits (am_ty ci f) v = true ∧ am_vk v = true ∧ (am_cF G ci f = false ∨ (ini = true ∧ ci = oc)) then am_nx (pc + 3) lv rest (am_pO μ a f v) else none
  | _, _ => none
def am_nob (G : am_G) (oc ix pc : Nat) (lv : List (Option Value)) (st : List Value) (μ : am_Mem) : am_R := match am_rc G oc ix with
  | some ci => am_nx (pc + 3) lv (.ref (am_n μ) :: st) (am_nO μ ci (am_cN G ci))
  | none => none
def am_obi (G : am_G) (oc ix pc : Nat) (lv : List (Option Value)) (st : List Value) (μ : am_Mem) : am_R := match st with
  | .ref _ :: rest => if am_ob G oc ix = true ∧ (rest.map fun v => v.category).sum ≤ 8 then am_nx (pc + 3) lv rest μ else none
  | _ => none
def am_swt (dflt lo hi : Int) (offs : Array Int) (pc : Nat) (lv : List (Option Value)) (st : List Value) (μ : am_Mem) : am_R := match st with
  | .int x :: rest => if x.toInt < lo ∨ hi < x.toInt then am_jmp pc dflt lv rest μ else match offs[(x.toInt - lo).toNat]? with
    | some off => am_jmp pc off lv rest μ
    | none => none
  | _ => none
def am_cond (c : ClassFile.Cond) (x y : Int32) (pc : Nat) (off : Int) (lv : List (Option Value)) (st : List Value) (μ : am_Mem) : am_R := match c with
  | .eq => am_br (x = y) pc off lv st μ
  | .ne => am_br (¬ x = y) pc off lv st μ
  | .lt => am_br (x < y) pc off lv st μ
  | .ge => am_br (y ≤ x) pc off lv st μ
  | .gt => am_br (y < x) pc off lv st μ
  | .le => am_br (x ≤ y) pc off lv st μ
/-- one instruction that is no call and no throw -/
def am_step (G : am_G) (oc nL : Nat) (ini : Bool) (ret : Option FieldType) (pc : Nat) (i : Instr) (lv : List (Option Value)) (st : List Value) (μ : am_Mem) : am_R := match i with
  | .iconst n => am_nx (pc + 1) lv (.int (Int32.ofInt n) :: st) μ
  | .bipush n => am_nx (pc + 2) lv (.int (Int8.ofInt n).toInt32 :: st) μ
  | .sipush n => am_nx (pc + 3) lv (.int (Int16.ofInt n).toInt32 :: st) μ
  | .lconst n => am_nx (pc + 1) lv (.long (Int64.ofNat (n : Nat)) :: st) μ
  | .ldc ix => match am_ri G oc ix with
    | some v => am_nx (pc + 2) lv (.int v :: st) μ
    | none => match am_rt G oc ix with
      | some r => am_nx (pc + 2) lv (.ref r :: st) μ
      | none => none
  | .getstatic ix => match am_rs G oc ix with
    | some v => am_nx (pc + 3) lv (v :: st) μ
    | none => none
  | .invokestatic ix => am_ivs G oc ix pc lv st μ
  | .ldc_w ix => match am_ri G oc ix with
    | some v => am_nx (pc + 3) lv (.int v :: st) μ
    | none => none
  | .ldc2_w ix => match am_rl G oc ix with
    | some v => am_nx (pc + 3) lv (.long v :: st) μ
    | none => none
  | .iload_n k => am_ild 1 k pc lv st μ
  | .iload k => am_ild 2 k pc lv st μ
  | .lload_n k => am_lld 1 k pc lv st μ
  | .lload k => am_lld 2 k pc lv st μ
  | .aload_n k => am_ald 1 k pc lv st μ
  | .aload k => am_ald 2 k pc lv st μ
  | .istore_n k => am_ist nL 1 k pc lv st μ
  | .istore k => am_ist nL 2 k pc lv st μ
  | .lstore_n k => am_lst nL 1 k pc lv st μ
  | .lstore k => am_lst nL 2 k pc lv st μ
  | .astore_n k => am_ast nL 1 k pc lv st μ
  | .astore k => am_ast nL 2 k pc lv st μ
  | .iinc k n => match am_lget lv k with
    | some (.int x) => if k < nL then am_nx (pc + 3) (am_set1 lv k (.int (x + Int32.ofInt n))) st μ else none
    | _ => none
  | .iadd => am_i2 (fun x y => x + y) pc lv st μ
  | .isub => am_i2 (fun x y => x - y) pc lv st μ
  | .imul => am_i2 (fun x y => x * y) pc lv st μ
  | .iand => am_i2 (fun x y => x &&& y) pc lv st μ
  | .ior => am_i2 (fun x y => x ||| y) pc lv st μ
  | .ixor => am_i2 (fun x y => x ^^^ y) pc lv st μ
  | .ishl => am_i2 (fun x y => x <<< (y &&& 31)) pc lv st μ
  | .ishr => am_i2 (fun x y => x >>> (y &&& 31)) pc lv st μ
  | .iushr => am_i2 (fun x y => (x.toUInt32 >>> (y.toUInt32 &&& Int32.toUInt32 31)).toInt32) pc lv st μ
  | .idiv => am_i2z (fun x y => x / y) pc lv st μ
  | .irem => am_i2z (fun x y => x - x / y * y) pc lv st μ
  | .ineg => am_i1 (fun x => .int (-x)) pc lv st μ
  | .ladd => am_l2 (fun x y => x + y) pc lv st μ
  | .lsub => am_l2 (fun x y => x - y) pc lv st μ
  | .lmul => am_l2 (fun x y => x * y) pc lv st μ
  | .land => am_l2 (fun x y => x &&& y) pc lv st μ
  | .lor => am_l2 (fun x y => x ||| y) pc lv st μ
  | .ldiv => am_l2z (fun x y => x / y) pc lv st μ
  | .lrem => am_l2z (fun x y => x - x / y * y) pc lv st μ
  | .lushr => am_lsh (fun x y => (x.toUInt64 >>> (y.toInt64.toUInt64 &&& Int64.toUInt64 63)).toInt64) pc lv st μ
  | .lshl => am_lsh (fun x y => x <<< (y.toInt64 &&& 63)) pc lv st μ
  | .lshr => am_lsh (fun x y => x >>> (y.toInt64 &&& 63)) pc lv st μ
  | .lcmp => match st with
    | .long y :: .long x :: rest => am_nx (pc + 1) lv (.int (lg_cmp x y) :: rest) μ
    | _ => none
  | .i2l => am_i1 (fun x => .long x.toInt64) pc lv st μ
  | .i2b => am_i1 (fun x => .int x.toInt8.toInt32) pc lv st μ
  | .i2s => am_i1 (fun x => .int x.toInt16.toInt32) pc lv st μ
  | .i2c => am_i1 (fun x => .int (x.toUInt32 % 65536).toInt32) pc lv st μ
  | .l2i => match st with
    | .long x :: rest => am_nx (pc + 1) lv (.int x.toInt32 :: rest) μ
    | _ => none
  | .dup => match st with
    | v :: rest => if v.category = 1 then am_nx (pc + 1) lv (v :: v :: rest) μ else none
    | _ => none
  | .pop => match st with
    | v :: rest => if v.category = 1 then am_nx (pc + 1) lv rest μ else none
    | _ => none
  | .dup_x1 => match st with
    | v :: w :: rest => if v.category = 1 ∧ w.category = 1 then am_nx (pc + 1) lv (v :: w :: v :: rest) μ else none
    | _ => none
  | .dup2 => match st with
    | v :: w :: rest => if v.category = 1 ∧ w.category = 1 then am_nx (pc + 1) lv (v :: w :: v :: w :: rest) μ else none
    | _ => none
  | .ifCond c off => match st with
    | .int x :: rest => am_cond c x 0 pc off lv rest μ
    | _ => none
  | .if_icmp c off => match st with
    | .int y :: .int x :: rest => am_cond c x y pc off lv rest μ
    | _ => none
  | .goto off => am_jmp pc off lv st μ
  | .tableswitch dflt lo hi offs => am_swt dflt lo hi offs pc lv st μ
  | .getfield ix => am_fldx G oc ix pc lv st μ
  | .putfield ix => am_put G oc ini ix pc lv st μ
  | .iaload => am_xld 2 8 8 pc lv st μ
  | .baload => am_xld 3 4 10 pc lv st μ
  | .caload => am_xld 5 5 5 pc lv st μ
  | .saload => am_xld 7 7 7 pc lv st μ
  | .laload => am_xll pc lv st μ
  | .iastore => am_xst 2 2 pc lv st μ
  | .bastore => am_xst 3 4 pc lv st μ
  | .castore => am_xst 5 5 pc lv st μ
  | .sastore => am_xst 7 7 pc lv st μ
  | .lastore => am_xsl pc lv st μ
  | .arraylength => match st with
    | .ref a :: rest => if 2 ≤ (am_kd μ a).1 ∧ (am_kd μ a).1 ≤ 10 ∧ ¬ (am_kd μ a).1 = 9 then am_nx (pc + 1) lv (.int (Int32.ofNat (am_kd μ a).2) :: rest) μ else none
    | _ => none
  | .newarray t => am_new (am_atg t) pc lv st μ
  | .new ix => am_nob G oc ix pc lv st μ
  | .invokespecial ix => am_obi G oc ix pc lv st μ
  | .ireturn => match st, ret with
    | [.int x], some ty => if narrow ty (.int x) = .int x ∧ fits ty (.int x) = true then some (.inr (some (.int x), μ)) else none
    | _, _ => none
  | .lreturn => match st with
    | [.long x] => if ret = some .long then some (.inr (some (.long x), μ)) else none
    | _ => none
  | .areturn => match st, ret with
    | [.ref a], some (.array _) => some (.inr (some (.ref a), μ))
    | [.ref a], some (.object _) => some (.inr (some (.ref a), μ))
    | _, _ => none
  | .return_ => match st with
    | [] => if ret = none then some (.inr (none, μ)) else none
    | _ => none
  | _ => none
def am_lok (i : Instr) (len : Nat) : Bool := match i with
  | .tableswitch _ _ _ _ => true
  | _ => len == am_len i
def am_fetch (G : am_G) (k pc : Nat) : Option (Instr × Nat) := match am_mt G k with
  | none => none
  | some M => match decode (am_Mc M) pc with
    | .ok x => some x
    | _ => none
/-- the locals at a method's entry -/
def am_ent (G : am_G) (k : Nat) (vs : List Value) : List (Option Value) := match am_mt G k with
  | some M => am_pad (am_Ml M) (am_lay vs)
  | none => []
/-- a call: the callee, its arguments, what stays on the stack -/
def am_callee (G : am_G) (oc : Nat) (i : Instr) (st : List Value) (μ : am_Mem) : Option (Nat × List Value × List Value) := match i with
  | .invokestatic ix => match am_rm G oc ix with
    | some k => match am_mt G k with
      | some M => if am_Mk M = 0 ∧ am_Ma M ≤ st.length ∧ (lg_sl (st.take (am_Ma M)).reverse).length ≤ am_Ml M then some (k, (st.take (am_Ma M)).reverse, st.drop (am_Ma M)) else none
      | none => none
    | none => none
  | .invokevirtual ix => match am_rm G oc ix with
    | some k => match am_mt G k with
      | some M => match st.drop (am_Ma M) with
        | .ref a :: rest => if am_Mk M = 1 ∧ (am_kd μ a = (1, am_Mo M) ∨ am_xo G a = some (am_Mo M)) ∧ am_Ma M ≤ st.length ∧ (lg_sl (.ref a :: (st.take (am_Ma M)).reverse)).length ≤ am_Ml M then some (k, .ref a :: (st.take (am_Ma M)).reverse, rest) else none
        | _ => none
      | none => none
    | none => none
  | .invokespecial ix => match am_rm G oc ix with
    | some k => match am_mt G k with
      | some M => match st.drop (am_Ma M) with
        | .ref a :: rest => if am_Mk M = 2 ∧ am_Ma M ≤ st.length ∧ (lg_sl (.ref a :: (st.take (am_Ma M)).reverse)).length ≤ am_Ml M then some (k, .ref a :: (st.take (am_Ma M)).reverse, rest) else none
        | _ => none
      | none => none
    | none => none
  | _ => none
/-- where an exception of kind x, thrown at pc, is taken: the place behind its store, and the local that it takes -/
def am_hand (G : am_G) (oc : Nat) (k pc x : Nat) : List (Nat × Nat × Nat × Nat) → Option (Nat × Nat)
  | [] => none
  | h :: hs => if h.1 ≤ pc ∧ pc < h.2.1 then match am_ct G oc h.2.2.2 x with
      | some true => match am_fetch G k h.2.2.1 with
        | some (.astore_n j, 1) => some (h.2.2.1 + 1, (j : Nat))
        | some (.astore j, 2) => some (h.2.2.1 + 2, j)
        | _ => none
      | some false => am_hand G oc k pc x hs
      | none => none
    else am_hand G oc k pc x hs
/-- 'throw new E("text")': the number of E -/
def am_throw (G : am_G) (oc k pc : Nat) (i : Instr) : Option Nat := match i with
  | .new ik => match am_fetch G k (pc + 3), am_fetch G k (pc + 4) with
    | some (.dup, 1), some (.ldc is, 2) => match am_fetch G k (pc + 6), am_fetch G k (pc + 9) with
      | some (.invokespecial ic, 3), some (.athrow, 1) => am_th G oc ik is ic
      | _, _ => none
    | some (.dup, 1), some (.ldc_w is, 3) => match am_fetch G k (pc + 7), am_fetch G k (pc + 10) with
      | some (.invokespecial ic, 3), some (.athrow, 1) => am_th G oc ik is ic
      | _, _ => none
    | _, _ => none
  | _ => none
def am_isp (i : Instr) : Bool := match i with
  | .invokespecial _ => true
  | _ => false
/-- the whole run of a frame: what is returned, or the kind of what is thrown -/
def am_run (G : am_G) : Nat → Nat → Nat → am_C → Option ((Option Value ⊕ Nat) × am_Mem)
  | 0, _, _, _ => none
  | n + 1, d, k, (pc, lv, st, μ) => match am_mt G k with
    | none => none
    | some M => match decode (am_Mc M) pc with
      | .ok (i, len) => match am_callee G (am_Mo M) i st μ with
        | some (k', vs, rest) => match d with
          | 0 => none
          | d' + 1 => if len = 3 ∧ (rest.map fun v => v.category).sum ≤ 8 then match am_run G n d' k' (0, am_ent G k' vs, [], μ) with
            | none => none
            | some (.inl v, μ') => am_run G n (d' + 1) k (pc + 3, lv, v.toList ++ rest, μ')
            | some (.inr x, μ') => if am_isp i = true then none else if am_Mh M = [] then some (.inr x, μ') else match am_hand G (am_Mo M) k pc x (am_Mh M) with
              | none => none
              | some (pc', j) => if j < am_Ml M then am_run G n (d' + 1) k (pc', am_drp lv j, [], μ') else none
            else none
        | none => match am_throw G (am_Mo M) k pc i with
          | some x => if len = 3 ∧ am_Mh M = [] ∧ (st.map fun v => v.category).sum ≤ 8 then some (.inr x, am_nX μ) else none
          | none => if am_lok i len = true then match am_step G (am_Mo M) (am_Ml M) (decide ((am_My M).name = "<init>")) (am_Mr M) pc i lv st μ with
            | none => none
            | some (.inl cf) => am_run G n d k cf
            | some (.inr (v, μ')) => some (.inl v, μ')
            else none
      | _ => none
