/-! ===== a step of the small machine is a step of the machine ===== -/
/-- the tables are as the words have them -/
def am_OkF (G : am_G) (cl : List vw_C) (cn : Nat → String) (T0 Tn : List Cond) : Prop := ∀ oc ix ci f, am_rf G oc ix = some (ci, f) → ∃ C T N, cl[ci]? = some (C, T, N) ∧ f < N ∧ ((Cond.fieldLink (cn oc) ix (T f).1 (T f).2.1 (T f).2.2.1) ∈ T0 ∨ (¬ ci = oc ∧ ∃ h, (Cond.fieldLinkNest (cn oc) ix (T f).1 (T f).2.1 (T f).2.2.1 h) ∈ Tn))
def am_OkC (G : am_G) (cl : List vw_C) (cn : Nat → String) (T0 : List Cond) : Prop := ∀ ci C T N, cl[ci]? = some (C, T, N) → C = cn ci ∧ (∀ w ∈ u_ws C T N, w ∈ T0) ∧ (∀ k, k < N → parseFieldDescriptor (T k).2.2.1 = some (am_ty ci k)) ∧ (∀ a, a < N → ∀ b, b < N → a ≠ b → (T a).2.1 ≠ (T b).2.1) ∧ (∀ k, k < N → am_cF G ci k = (T k).2.2.2 ∧ (T k).1 = C) ∧ am_cN G ci = N
def am_OkN (G : am_G) (cl : List vw_C) (cn : Nat → String) (T0 : List Cond) : Prop := ∀ oc ix ci, am_rc G oc ix = some ci → ∃ C T N, cl[ci]? = some (C, T, N) ∧ Cond.classLink (cn oc) ix C ∈ T0 ∧ Cond.instantiable C N ∈ T0 ∧ Cond.initialized C ∈ T0
def am_OkI (G : am_G) (cn : Nat → String) (T0 : List Cond) : Prop := (∀ oc ix v, am_ri G oc ix = some v → Cond.constant (cn oc) ix v ∈ T0) ∧ (∀ oc ix v, am_rl G oc ix = some v → Cond.constantLong (cn oc) ix v ∈ T0) ∧ (∀ t ty, am_aty t = some ty → Cond.arrayClass ty ∈ T0) ∧ (∀ oc ix, am_ob G oc ix = true → Cond.methodLink (cn oc) ix Lib.objectInit ∈ T0 ∧ Cond.instanceMethod Lib.objectInit ∈ T0 ∧ Cond.code Lib.objectInit ⟨#[0xb1]⟩ 1 none ∈ T0)
def am_Ok (G : am_G) (cl : List vw_C) (cn : Nat → String) (T0 Tn : List Cond) : Prop := am_OkF G cl cn T0 Tn ∧ am_OkC G cl cn T0 ∧ am_OkN G cl cn T0 ∧ am_OkI G cn T0
/-- what was there before: statics, texts, objects; System.arraycopy -/
def am_X (G : am_G) (s0 : State) (xa : Nat → Nat) (cn : Nat → String) (T0 : List Cond) : Prop :=
  (∀ oc ix v, am_rs G oc ix = some v → ∃ C n d, Cond.fieldLink (cn oc) ix C n d ∈ T0 ∧ va_Z C n d (am_cv s0.heap.size xa v) (fun q => s0.heap.size ≤ q) s0 s0.heap) ∧
  (∀ oc ix r, am_rt G oc ix = some r → r < 16 ∧ ∃ tx, vk_R (cn oc) ix tx (xa r) s0) ∧
  (∀ oc ix a v, am_xf G oc ix a = some v → a < 16 ∧ ∃ C n d, Cond.fieldLink (cn oc) ix C n d ∈ T0 ∧ va_OF C n d (am_cv s0.heap.size xa v) (xa a) (fun q => s0.heap.size ≤ q) s0 s0.heap) ∧
  (∀ a ci, am_xo G a = some ci → a < 16 ∧ xa a < s0.heap.size ∧ ∃ cell, s0.heap[xa a]? = some cell ∧ cell.vm.isStatics = false ∧ s0.vm.findClass (cn ci) = some cell.cls) ∧
  (∀ oc ix, am_ac G oc ix = true → Cond.methodLink (cn oc) ix arraycopyName ∈ T0 ∧ Cond.native arraycopyName ∈ T0 ∧ Cond.static arraycopyName ∈ T0 ∧ Cond.initialized "java/lang/System" ∈ T0) ∧
  (∀ oc ix, am_mi G oc ix = true → Cond.methodLink (cn oc) ix Lib.Math.min.name ∈ T0 ∧ Cond.static Lib.Math.min.name ∈ T0 ∧ Cond.initialized "java/lang/Math" ∈ T0 ∧ Cond.code Lib.Math.min.name Lib.Math.min.code 2 (some .int) ∈ T0)
section AMS
variable {p : Program} {l : Launch} {e : Env} {R : Room} {s : State} {m : MethodId} {args : Array Value} {below : List Frame} {meth : Method} {c : Code} {H : Heap} {locs : List Loc} {cells slots : Nat} {Q : State → Prop}
variable {s0 : State} {xa : Nat → Nat} {D : va_G} {cl : List vw_C} {cn : Nat → String} {G : am_G} {T0 Tn : List Cond} {cc : ByteArray} {oc nL n0 z0 : Nat} {ini : Bool} {ret : Option FieldType} {ls : Array Slot}
variable {pc pc' len : Nat} {i : Instr} {lv lv' : List (Option Value)} {st st' : List Value} {μ μ' : am_Mem}
/-- what a body stands on -/
def am_Bd (p : Program) (s : State) (m : MethodId) (args : Array Value) (meth : Method) (c : Code) (s0 : State) (D : va_G) (cl : List vw_C) (cn : Nat → String) (T0 Tn : List Cond) (cc : ByteArray) (oc nL : Nat) (ini : Bool) (ret : Option FieldType) : Prop :=
  p.tables.exec = Jvm.exec ∧ c.code = cc ∧ c.maxLocals = nL ∧ s.vm.findClass (cn oc) = some m.cls ∧ (∀ w ∈ T0, w.before args s = true) ∧ (∀ w ∈ Tn, w.before args s = true) ∧ va_K D cl [] s ∧ s0.vm.Alike s.vm ∧ meth.sig.returnType = ret ∧ meth.locks = false ∧ (ini = true → meth.name = "<init>")
/-- how the walk goes on -/
def am_K (p : Program) (l : Launch) (e : Env) (R : Room) (s : State) (m : MethodId) (args : Array Value) (below : List Frame) (meth : Method) (c : Code) (Q : State → Prop) (s0 : State) (xa : Nat → Nat) (D : va_G) (cl : List vw_C) (nL n0 z0 : Nat) (pc : Nat) (lv : List (Option Value)) (st : List Value) (μ : am_Mem) : Prop :=
  ∀ (H : Heap) (ls : Array Slot) (locs : List Loc) (cells slots : Nat), am_Rep s0 xa D cl μ H → lv_has ls nL (am_cl s0.heap.size xa lv) → (∀ z ∈ locs, s0.heap.size ≤ z.base) → cells + n0 = am_n μ → slots + z0 = am_sl μ → W p l e R s m args below meth c H locs cells slots Q (F0 m pc ls (st.map (am_cv s0.heap.size xa)))
theorem am_rd (hB : am_Bd p s m args meth c s0 D cl cn T0 Tn cc oc nL ini ret) (ok : am_Ok G cl cn T0 Tn) (hR : am_Rep s0 xa D cl μ H) {ix a ci f : Nat} (hrf : am_rf G oc ix = some (ci, f)) (hk : am_kd μ a = (1, ci)) {rest : List Value}
    (hd : decode cc pc = .ok (.getfield ix, 3)) (kk : W p l e R s m args below meth c H locs cells slots Q (F0 m (pc + 3) ls (am_cv s0.heap.size xa (am_O μ a f) :: rest))) : W p l e R s m args below meth c H locs cells slots Q (F0 m pc ls (.ref (am_ad s0.heap.size xa a) :: rest)) := by
  obtain ⟨hx, hb, hml, hown, hts, hnt, hK, hal, hret, hlocks, hini⟩ := hB
  obtain ⟨okF, okC, okN, okI⟩ := ok
  obtain ⟨C, T, N, hc, hf, hlink⟩ := okF oc ix ci f hrf
  obtain ⟨-, hin, -⟩ := okC ci C T N hc
  obtain ⟨-, q, hq, cell, q1, q2, q3, q4⟩ := hR.2.2.2.1 a ci hk
  cases Option.some.inj (hc.symm.trans hq)
  obtain ⟨hS, hfc, kC, hkC, hkind⟩ := hK.1 ci _ hc
  obtain ⟨cf, kf, fi, fd, hi, hsl⟩ := hS f hf
  rcases hlink with hlink | ⟨hno, h, hlink⟩
  · exact W.getf hx hb hown (hts _ hlink) hi (u_facts hfc hkC (u_lays hts hin hf) hi).1 q1 (by rw [q3]; exact fun h => by cases h) (by rw [hsl]; exact q4 f hf) rfl rfl hd kk
  · exact va_Wgetf hx hb hown (hnt _ hlink) hi (u_facts hfc hkC (u_lays hts hin hf) hi).1 q1 (by rw [q3]; exact fun h => by cases h) (by rw [hsl]; exact q4 f hf) rfl rfl hd kk
theorem am_narcv {h0 : Nat} {ty : FieldType} {v : Value} (h : narrow ty v = v) : narrow ty (am_cv h0 xa v) = am_cv h0 xa v := by
  cases v with
  | ref r => cases ty <;> rfl
  | int x => exact h
  | long x => exact h
  | float x => exact h
  | double x => exact h
  | null => exact h
  | retAddr x => exact h
theorem am_fitcv {h0 : Nat} {ty : FieldType} {v : Value} (h : fits ty v = true) : fits ty (am_cv h0 xa v) = true := by
  cases v with
  | ref r => cases ty <;> first | exact h | rfl
  | int x => exact h
  | long x => exact h
  | float x => exact h
  | double x => exact h
  | null => exact h
  | retAddr x => exact h
theorem am_wr (hB : am_Bd p s m args meth c s0 D cl cn T0 Tn cc oc nL ini ret) (ok : am_Ok G cl cn T0 Tn) (hR : am_Rep s0 xa D cl μ H) {ix a ci f : Nat} {v : Value} (hrf : am_rf G oc ix = some (ci, f)) (hk : am_kd μ a = (1, ci)) (hn : narrow (am_ty ci f) v = v) (hft : fits (am_ty ci f) v = true) (hvk : am_vk v = true) (hfi : am_cF G ci f = false ∨ (ini = true ∧ ci = oc)) {rest : List Value} (hl : lv_has ls nL (am_cl s0.heap.size xa lv)) (hloc : ∀ z ∈ locs, s0.heap.size ≤ z.base)
    (hd : decode cc pc = .ok (.putfield ix, 3)) (kk : ∀ (H' : Heap) (locs' : List Loc), am_Rep s0 xa D cl (am_pO μ a f v) H' → (∀ z ∈ locs', s0.heap.size ≤ z.base) → W p l e R s m args below meth c H' locs' cells slots Q (F0 m (pc + 3) ls rest)) : W p l e R s m args below meth c H locs cells slots Q (F0 m pc ls (am_cv s0.heap.size xa v :: .ref (am_ad s0.heap.size xa a) :: rest)) := by
  obtain ⟨hx, hb, hml, hown, hts, hnt, hK, hal, hret, hlocks, hini⟩ := hB
  obtain ⟨okF, okC, okN, okI⟩ := ok
  obtain ⟨C, T, N, hc, hf, hlink⟩ := okF oc ix ci f hrf
  obtain ⟨hcn, hin, hty, hnm, hfin, -⟩ := okC ci C T N hc
  obtain ⟨h16, q, hq, cell, q1, q2, q3, q4⟩ := hR.2.2.2.1 a ci hk
  cases Option.some.inj (hc.symm.trans hq)
  have hap := va_apart (own := cn oc) hts hin (am_ty ci) hty hnm hK hc
  obtain ⟨hS, hfc, kC, hkC, hkind⟩ := hK.1 ci _ hc
  obtain ⟨cf, kf, fi, fd, hi, hsl⟩ := hS f hf
  have hst := (u_facts hfc hkC (u_lays hts hin hf) hi).1
  have hnc := am_narcv (h0 := s0.heap.size) (xa := xa) hn
  have hfc2 := am_fitcv (h0 := s0.heap.size) (xa := xa) hft
  have hge : s0.heap.size ≤ am_ad s0.heap.size xa a := am_ad_ge h16
  have hloc' : ∀ z ∈ locs ++ [⟨am_ad s0.heap.size xa a, fd.slot⟩], s0.heap.size ≤ z.base := by
    intro z hz
    rcases List.mem_append.mp hz with h | h
    · exact hloc z h
    · rw [List.mem_singleton.mp h]; exact hge
  have hend : ∀ H' : Heap, H'[am_ad s0.heap.size xa a]? = some (cell.setSlot fd.slot (am_cv s0.heap.size xa v)) → H'.size = H.size → (∀ q, q ≠ am_ad s0.heap.size xa a → H'[q]? = H[q]?) → am_Rep s0 xa D cl (am_pO μ a f v) H' := by
    intro H' e1 e2 e3
    refine hR.pO hk hc hft hvk ?_ e2 e3
    rw [hsl] at e1
    exact ⟨_, e1, q2, q3, t_set q4 hap hf _⟩
  by_cases hff : am_cF G ci f = false
  · have hfin' : (T f).2.2.2 = false := by rw [← (hfin f hf).1]; exact hff
    have hlay := hts _ (hin _ (u_in_lay hf))
    unfold u_lay at hlay
    rw [if_neg (by rw [hfin']; decide)] at hlay
    have h6 := u_store hfc hkC hkind hlay hi (hty f hf) hnc hfc2
    rcases hlink with hlink | ⟨hno, h, hlink⟩
    · exact W.putK hx hb (f := fd) ⟨hown, hts _ hlink, ⟨_, _, _, hi⟩, hst⟩ (by rw [q2]; exact h6) q1 q3 (by rw [hsl]; exact k2_hasslot (q4 f hf)) rfl rfl hd fun H' e1 e2 e3 => kk H' _ (hend H' e1 e2 e3) hloc'
    · exact va_WputK hx hb (f := fd) hown (hnt _ hlink) hi hst (by rw [q2]; exact h6) q1 q3 (by rw [hsl]; exact k2_hasslot (q4 f hf)) rfl rfl hd fun H' e1 e2 e3 => kk H' _ (hend H' e1 e2 e3) hloc'
  · obtain ⟨hi1, hi2⟩ := hfi.resolve_left hff
    have hfin' : (T f).2.2.2 = true := by
      rw [← (hfin f hf).1]
      cases hz : am_cF G ci f with
      | true => rfl
      | false => exact absurd hz hff
    have hlay := hts _ (hin _ (u_in_lay hf))
    unfold u_lay at hlay
    rw [if_pos hfin'] at hlay
    have h8 := u_fits hfc hkC hkind (Or.inr hlay) hi (hty f hf) hnc hfc2
    have hcf : m.cls = cf := by
      obtain ⟨_, _, c', _, _, _, -, -, hf', -, -, -, hown2, -⟩ := Cond.laysFinal_spec hlay
      have e1 : c' = cf := by have := hi.symm.trans hf'; simp at this; exact this.1.symm
      rw [(hfin f hf).2, hcn, hi2] at hown2
      rw [← e1]; exact Option.some.inj (hown.symm.trans hown2)
    rcases hlink with hlink | ⟨hno, h, hlink⟩
    · exact W.putFinK hx hb hown (hts _ hlink) hi hst hcf (hini hi1) (by rw [q2]; exact h8) q1 q3 (by rw [hsl]; exact k2_hasslot (q4 f hf)) rfl rfl hd fun H' e1 e2 e3 => kk H' _ (hend H' e1 e2 e3) hloc'
    · exact absurd hi2 hno
theorem am_xin {j : Int32} {n : Nat} (h : ¬ (j < 0 ∨ n ≤ j.toNatClampNeg)) : j.toNatClampNeg < n := Nat.not_le.mp fun q => h (Or.inr q)
theorem am_locs {a k : Nat} (h16 : 16 ≤ a) (hloc : ∀ z ∈ locs, s0.heap.size ≤ z.base) : ∀ z ∈ locs ++ [(⟨am_ad s0.heap.size xa a, k⟩ : Loc)], s0.heap.size ≤ z.base := by
  intro z hz
  rcases List.mem_append.mp hz with h | h
  · exact hloc z h
  · rw [List.mem_singleton.mp h]; exact am_ad_ge h16
/-- one of our arrays, as the machine sees it -/
theorem am_cell (hal : s0.vm.Alike s.vm) (hR : am_Rep s0 xa D cl μ H) {a t : Nat} {ty : FieldType} (hk : (am_kd μ a).1 = t) (ht : am_aty t = some ty) : 16 ≤ a ∧ ∃ cell : Cell, H[am_ad s0.heap.size xa a]? = some cell ∧ s.isArrayOf cell ty ∧ cell.vm ≠ .unknown ∧ cell.slots.size = (am_kd μ a).2 ∧ ∀ j, j < (am_kd μ a).2 → cell.slots[j]? = some (am_val μ t a j) := by
  obtain ⟨h16, cell, h1, h2, h3, h4, h5⟩ := hR.2.2.2.2.1 a t (am_kd μ a).2 ty (by rw [← hk]) ht
  exact ⟨h16, cell, h1, State.isArrayOf_alike hal h2, h3, h4, h5⟩
theorem am_cellx (hal : s0.vm.Alike s.vm) (hR : am_Rep s0 xa D cl μ H) {a t : Nat} {ty : FieldType} (hk : (am_kd μ a).1 = t) (ht : am_xty t = some ty) : ∃ cell : Cell, H[am_ad s0.heap.size xa a]? = some cell ∧ s.isArrayOf cell ty ∧ cell.vm ≠ .unknown ∧ ((am_kd μ a).2 ≤ cell.slots.size ∧ cell.slots.size.toInt32 = Int32.ofNat (am_kd μ a).2) ∧ ∀ j, j < (am_kd μ a).2 → cell.slots[j]? = some (.int (am_A μ a j)) := by
  obtain ⟨h16, hx, cell, h1, h2, h3, h4, h5⟩ := hR.2.2.2.2.2 a t (am_kd μ a).2 ty (by rw [← hk]) ht
  refine ⟨cell, ?_, State.isArrayOf_alike hal h2, h3, h4, h5⟩
  unfold am_ad
  rw [if_pos h16, hR.2.2.1 _ hx]
  exact h1
theorem am_geti {h0 : Nat} {v : Value} {i : Nat} (hg : am_lget lv i = some v) : ∃ k : Nat, (am_cl h0 xa lv)[k]? = some (i, am_cv h0 xa v) :=
  List.getElem?_of_mem (am_cl_mem.mpr ⟨i, v, hg, rfl⟩)
theorem am_cellz (hal : s0.vm.Alike s.vm) (hR : am_Rep s0 xa D cl μ H) {a : Nat} (hk : 2 ≤ (am_kd μ a).1 ∧ (am_kd μ a).1 ≤ 10 ∧ ¬ (am_kd μ a).1 = 9) : ∃ (cell : Cell) (ty : FieldType), H[am_ad s0.heap.size xa a]? = some cell ∧ s.isArrayOf cell ty ∧ cell.slots.size.toInt32 = Int32.ofNat (am_kd μ a).2 := by
  by_cases h8 : (am_kd μ a).1 = 8 ∨ (am_kd μ a).1 = 10
  · obtain ⟨ty, hty⟩ : ∃ ty, am_xty (am_kd μ a).1 = some ty := by
      rcases h8 with h | h <;> rw [h] <;> exact ⟨_, rfl⟩
    obtain ⟨cell, h1, h2, h3, h4, h5⟩ := am_cellx hal hR rfl hty
    exact ⟨cell, _, h1, h2, h4.2⟩
  · obtain ⟨ty, hty⟩ : ∃ ty, am_aty (am_kd μ a).1 = some ty := by
      have h : (am_kd μ a).1 = 2 ∨ (am_kd μ a).1 = 3 ∨ (am_kd μ a).1 = 4 ∨ (am_kd μ a).1 = 5 ∨ (am_kd μ a).1 = 6 ∨ (am_kd μ a).1 = 7 := by omega
      rcases h with h | h | h | h | h | h <;> rw [h] <;> exact ⟨_, rfl⟩
    obtain ⟨h16, cell, h1, h2, h3, h4, h5⟩ := am_cell hal hR rfl hty
    exact ⟨cell, ty, h1, h2, by rw [h4]⟩
theorem am_ro {rest : List Value} {pc : Nat} {st9 : List Value} (h : (rest.map fun v => v.category).sum ≤ 8) (hR : 20 ≤ R.locals) : 2 * (F0 m pc ls st9).monitorRoom + ((rest.map (am_cv s0.heap.size xa)).map fun v => v.category).sum + 12 ≤ R.locals := by
  have e : (rest.map (am_cv s0.heap.size xa)).map (fun v => v.category) = rest.map (fun v => v.category) := by
    rw [List.map_map]
    exact List.map_congr_left fun v _ => am_cv_cat _ _ v
  rw [e]
  show 2 * 0 + _ + 12 ≤ _
  omega
theorem am_na (hB : am_Bd p s m args meth c s0 D cl cn T0 Tn cc oc nL ini ret) (ok : am_Ok G cl cn T0 Tn) (hR : am_Rep s0 xa D cl μ H) {t : ArrayType} {x : Int32} {rest : List Value} (ht0 : ¬ am_atg t = 0) (hx0 : ¬ x < 0) (hx1 : x.toNatClampNeg ≤ 60000000) (hd : decode cc pc = .ok (.newarray t, 2)) (hcs : cells + n0 = am_n μ) (hsl : slots + z0 = am_sl μ)
    (hroom : am_n (am_nA μ (am_atg t) x.toNatClampNeg) ≤ R.cells + n0 ∧ am_sl (am_nA μ (am_atg t) x.toNatClampNeg) ≤ R.slots + z0)
    (kk : ∀ H' : Heap, am_Rep s0 xa D cl (am_nA μ (am_atg t) x.toNatClampNeg) H' → W p l e R s m args below meth c H' locs (cells + 1) (slots + x.toNatClampNeg) Q (F0 m (pc + 2) ls (.ref (am_ad s0.heap.size xa (am_n μ)) :: rest))) :
    W p l e R s m args below meth c H locs cells slots Q (F0 m pc ls (.int x :: rest)) := by
  obtain ⟨hx, hb, hml, hown, hts, hnt, hK, hal, hret, hlocks, hini⟩ := hB
  have hty : am_aty (am_atg t) = some (newarray.typeOf t) := by cases t <;> first | rfl | exact absurd rfl ht0
  have hcb : componentBytes (newarray.typeOf t) ≤ 8 := by cases t <;> decide
  have r1 : am_n μ + 1 ≤ R.cells + n0 := hroom.1
  have r2 : am_sl μ + x.toNatClampNeg ≤ R.slots + z0 := hroom.2
  refine W.newaK hx hb (hts _ (ok.2.2.2.2.2.1 _ _ hty)) rfl hd rfl hx0 rfl (Nat.le_trans (Nat.mul_le_mul hx1 hcb) (by decide)) (by omega) (by omega) rfl fun H9 cA e1 e2 e3 hAr => ?_
  rw [← am_ad_n hR]
  refine kk H9 (hR.nA hty e2 e3 ?_)
  refine ⟨_, e1, State.isArrayOf_alike hal.symm (hAr _ _), (fun h => by cases h), arrV_size _ _ _, fun j hj => ?_⟩
  rw [arrV_read _ _ hj]
  cases t <;> first | rfl | exact absurd rfl ht0
theorem am_no (hB : am_Bd p s m args meth c s0 D cl cn T0 Tn cc oc nL ini ret) (ok : am_Ok G cl cn T0 Tn) (hR : am_Rep s0 xa D cl μ H) {ix ci : Nat} {rest : List Value} (hrc : am_rc G oc ix = some ci) (hd : decode cc pc = .ok (.new ix, 3)) (hcs : cells + n0 = am_n μ) (hsl : slots + z0 = am_sl μ)
    (hroom : am_n (am_nO μ ci (am_cN G ci)) ≤ R.cells + n0 ∧ am_sl (am_nO μ ci (am_cN G ci)) ≤ R.slots + z0)
    (kk : ∀ H' : Heap, am_Rep s0 xa D cl (am_nO μ ci (am_cN G ci)) H' → W p l e R s m args below meth c H' locs (cells + 1) (slots + am_cN G ci) Q (F0 m (pc + 3) ls (.ref (am_ad s0.heap.size xa (am_n μ)) :: rest))) :
    W p l e R s m args below meth c H locs cells slots Q (F0 m pc ls rest) := by
  obtain ⟨hx, hb, hml, hown, hts, hnt, hK, hal, hret, hlocks, hini⟩ := hB
  obtain ⟨C, T, N, hc, w1, w2, w3⟩ := ok.2.2.1 oc ix ci hrc
  obtain ⟨hcn, hin, hty, hnm, hfin, hN⟩ := ok.2.1 ci C T N hc
  have r1 : am_n μ + 1 ≤ R.cells + n0 := hroom.1
  have r2 : am_sl μ + am_cN G ci ≤ R.slots + z0 := hroom.2
  have hKn := hK.1 ci _ hc
  rw [hN] at kk r2
  refine W.newcK hx hb hown (hts _ w1) (hts _ w2) (hts _ w3) rfl hd (by omega) (by omega) hKn.2.1 rfl fun H9 kC hkC e1 e2 e3 => ?_
  rw [← am_ad_n hR]
  exact kk H9 (hR.nO hc e2 e3 (u_born (am_ty ci) hts hin hKn hkC e1 hty))
/-- System.arraycopy -/
theorem am_cpy (hB : am_Bd p s m args meth c s0 D cl cn T0 Tn cc oc nL ini ret) (hXX : am_X G s0 xa cn T0) (hR : am_Rep s0 xa D cl μ H) (hloc : ∀ z ∈ locs, s0.heap.size ≤ z.base) {ix a b : Nat} {n sp dp : Int32} {rest : List Value} (hac : am_ac G oc ix = true) (hk : (((am_kd μ a).1 = 2 ∨ (am_kd μ a).1 = 8) ∧ (am_kd μ b).1 = 2) ∨ ((am_kd μ a).1 = 7 ∧ (am_kd μ b).1 = 7 ∧ ∀ i, i < n.toNatClampNeg → fits .short (.int (am_A μ a (sp.toNatClampNeg + i))) = true))
    (h3 : ¬ n < 0) (h2 : ¬ dp < 0) (h1 : ¬ sp < 0) (h4 : sp.toNatClampNeg + n.toNatClampNeg ≤ (am_kd μ a).2) (h5 : dp.toNatClampNeg + n.toNatClampNeg ≤ (am_kd μ b).2) (hsum : (rest.map fun v => v.category).sum ≤ 8) (hlsz : ls.size = nL) (hfr : 1 ≤ R.frames ∧ 60 ≤ R.locals) (hd : decode cc pc = .ok (.invokestatic ix, 3))
    (kk : ∀ (H' : Heap) (locs' : List Loc), am_Rep s0 xa D cl (am_wA μ b (am_cp (am_A μ a) (am_A μ b) sp.toNatClampNeg dp.toNatClampNeg n.toNatClampNeg)) H' → (∀ z ∈ locs', s0.heap.size ≤ z.base) → W p l e R s m args below meth c H' locs' cells slots Q (F0 m (pc + 3) ls (rest.map (am_cv s0.heap.size xa)))) :
    W p l e R s m args below meth c H locs cells slots Q (F0 m pc ls (.int n :: .int dp :: .ref (am_ad s0.heap.size xa b) :: .int sp :: .ref (am_ad s0.heap.size xa a) :: rest.map (am_cv s0.heap.size xa))) := by
  obtain ⟨hx, hb, hml, hown, hts, hnt, hK, hal, hret, hlocks, hini⟩ := hB
  obtain ⟨w1, w2, w3, w4⟩ := hXX.2.2.2.2.1 _ _ hac
  have nn : ∀ z : Int32, ¬ z < 0 → z.toInt = (z.toNatClampNeg : Int) := by
    intro z hz
    have hz0 : (0 : Int) ≤ z.toInt := by
      have := Int32.not_lt.mp hz
      simpa using Int32.le_iff_toInt_le.mp this
    show z.toInt = ((z.toInt.toNat : Nat) : Int)
    omega
  obtain ⟨tb, ty, htb, hkb, hn6, hprim, cs, c1, c2, c3, c4, c5, hfit⟩ : ∃ (tb : Nat) (ty : FieldType), am_aty tb = some ty ∧ (am_kd μ b).1 = tb ∧ tb ≠ 6 ∧ refKind ty = false ∧ ∃ cs : Cell, H[am_ad s0.heap.size xa a]? = some cs ∧ s.isArrayOf cs ty ∧ cs.vm ≠ .unknown ∧ (am_kd μ a).2 ≤ cs.slots.size ∧ (∀ j, j < (am_kd μ a).2 → cs.slots[j]? = some (.int (am_A μ a j))) ∧ (∀ i, i < n.toNatClampNeg → fits ty (.int (am_A μ a (sp.toNatClampNeg + i))) = true) := by
    rcases hk with ⟨ha, hb2⟩ | ⟨ha, hb2, hf⟩
    · refine ⟨2, .int, rfl, hb2, by decide, rfl, ?_⟩
      rcases ha with ha | ha
      · obtain ⟨-, cs, c1, c2, c3, c4, c5⟩ := am_cell hal hR ha rfl
        exact ⟨cs, c1, c2, c3, Nat.le_of_eq c4.symm, c5, fun i hi => rfl⟩
      · obtain ⟨cs, c1, c2, c3, c4, c5⟩ := am_cellx hal hR ha rfl
        exact ⟨cs, c1, c2, c3, c4.1, c5, fun i hi => rfl⟩
    · refine ⟨7, .short, rfl, hb2, by decide, rfl, ?_⟩
      obtain ⟨-, cs, c1, c2, c3, c4, c5⟩ := am_cell hal hR ha rfl
      exact ⟨cs, c1, c2, c3, Nat.le_of_eq c4.symm, c5, hf⟩
  obtain ⟨hb16, cd, d1, d2, d3, d4, d5⟩ := am_cell hal hR hkb htb
  have d5' : ∀ j, j < (am_kd μ b).2 → cd.slots[j]? = some (.int (am_A μ b j)) := by
    intro j hj
    rw [d5 j hj]
    unfold am_val
    rw [if_neg hn6]
  obtain ⟨hcs, ks, hks, compS, hkkS⟩ := c2
  obtain ⟨hcd, kd, hkd, compD, hkkD⟩ := id d2
  intro T hT X
  obtain ⟨vm', X', step⟩ := X.arraycopy hx hown (hts _ w1) (hts _ w2) (hts _ w3) (hts _ w4) (src := am_ad s0.heap.size xa a) (dst := am_ad s0.heap.size xa b) (cs := cs) (cd := cd) (srcPos := sp) (destPos := dp) (n := n) (by rw [hT]; exact c1) (by rw [hT]; exact d1)
    hcs hcd c3 d3 hks hkd hkkS hkkD (by simp [hprim]) h1 h2 h3
    (by rw [nn sp h1, nn n h3]; omega)
    (by rw [nn dp h2, nn n h3, d4]; omega)
    (fun vm₁ _ i hi => by
      have e : cs.slots.getD (sp.toNatClampNeg + i) .null = .int (am_A μ a (sp.toNatClampNeg + i)) := by
        rw [Array.getD_eq_getD_getElem?, c5 _ (by omega)]
        rfl
      rw [e]
      exact ⟨hfit i hi, trivial⟩)
    (g := F0 m pc ls (.int n :: .int dp :: .ref (am_ad s0.heap.size xa b) :: .int sp :: .ref (am_ad s0.heap.size xa a) :: rest.map (am_cv s0.heap.size xa))) rfl (by rw [hml]; exact hlsz) (rest := rest.map (am_cv s0.heap.size xa)) rfl (by rw [hb]; exact hd) hfr.1
    (by
      have e : (rest.map (am_cv s0.heap.size xa)).map (fun v => v.category) = rest.map (fun v => v.category) := by
        rw [List.map_map]
        exact List.map_congr_left fun v _ => am_cv_cat _ _ v
      rw [e]
      show 2 * 0 + _ + (nativeFrameWords "java/lang/System" "arraycopy" 5 + 11) ≤ _
      have : nativeFrameWords "java/lang/System" "arraycopy" 5 = 7 := by decide
      omega)
  have hl : am_ad s0.heap.size xa b < H.size := (Array.getElem?_eq_some_iff.mp d1).1
  have hheap : ((T.setVm vm').setCell (am_ad s0.heap.size xa b) (copied cs cd sp dp n)).heap = H.setIfInBounds (am_ad s0.heap.size xa b) (copied cs cd sp dp n) := by rw [← hT]; rfl
  have oq : ∀ q : Nat, q ≠ am_ad s0.heap.size xa b → (H.setIfInBounds (am_ad s0.heap.size xa b) (copied cs cd sp dp n))[q]? = H[q]? := fun q hq => by simp [Array.getElem?_setIfInBounds, Ne.symm hq]
  have hlen : (cs.stretch sp.toNatClampNeg n.toNatClampNeg).length = n.toNatClampNeg := by simp [Cell.stretch]
  have hcop : copied cs cd sp dp n = cd.storeRun dp.toNatClampNeg (cs.stretch sp.toNatClampNeg n.toNatClampNeg) := rfl
  obtain ⟨f1, f2, f3, -⟩ := Cell.storeRun_facts cd dp.toNatClampNeg (cs.stretch sp.toNatClampNeg n.toNatClampNeg)
  have harr : am_arr s0 (H.setIfInBounds (am_ad s0.heap.size xa b) (copied cs cd sp dp n)) (am_ad s0.heap.size xa b) ty (am_kd μ b).2 (fun j => .int (am_cp (am_A μ a) (am_A μ b) sp.toNatClampNeg dp.toNatClampNeg n.toNatClampNeg j)) := by
    refine ⟨copied cs cd sp dp n, by simp [Array.getElem?_setIfInBounds, hl], ?_, ?_, ?_, fun j hj => ?_⟩
    · rw [hcop]
      have := State.isArrayOf_alike hal.symm d2
      obtain ⟨z1, z2⟩ := this
      exact ⟨by rw [f2]; exact z1, by rw [f1]; exact z2⟩
    · rw [hcop, f2]; exact d3
    · rw [hcop, f3]; exact d4
    · rw [hcop, Cell.storeRun_get _ _ _ _ (by rw [hlen, d4]; exact h5), hlen]
      show _ = some (Value.int (am_cp (am_A μ a) (am_A μ b) sp.toNatClampNeg dp.toNatClampNeg n.toNatClampNeg j))
      unfold am_cp
      by_cases hc : dp.toNatClampNeg ≤ j ∧ j < dp.toNatClampNeg + n.toNatClampNeg
      · rw [if_pos hc, if_pos hc]
        unfold Cell.stretch
        rw [List.getElem?_map, List.getElem?_range (by omega)]
        show some (cs.slots.getD (sp.toNatClampNeg + (j - dp.toNatClampNeg)) .null) = _
        rw [Array.getD_eq_getD_getElem?, c5 _ (by omega)]
        rfl
      · rw [if_neg hc, if_neg hc]
        exact d5' j hj
  obtain ⟨t, a1, b1⟩ := kk _ _ (hR.wA (t := tb) (n := (am_kd μ b).2) (by rw [← hkb]) htb hn6 harr (by simp) oq) (fun q hq => by
      rcases List.mem_append.mp hq with h | h
      · exact hloc q h
      · obtain ⟨z, -, hz⟩ := List.mem_map.mp h
        rw [← hz]
        exact am_ad_ge hb16) _ hheap X'
  exact ⟨t, step t a1, b1⟩
/-- THE STEP -/
theorem am_ss (hB : am_Bd p s m args meth c s0 D cl cn T0 Tn cc oc nL ini ret) (ok : am_Ok G cl cn T0 Tn) (hXX : am_X G s0 xa cn T0) (hWm : s0.WarmedH s.vm) (hR : am_Rep s0 xa D cl μ H) (hl : lv_has ls nL (am_cl s0.heap.size xa lv)) (hloc : ∀ z ∈ locs, s0.heap.size ≤ z.base)
    (hd : decode cc pc = .ok (i, len)) (hlen : am_lok i len = true) (hs : am_step G oc nL ini ret pc i lv st μ = some (.inl (pc', lv', st', μ'))) (hcs : cells + n0 = am_n μ) (hsl : slots + z0 = am_sl μ)
    (hroom : am_n μ' ≤ R.cells + n0 ∧ am_sl μ' ≤ R.slots + z0) (hfr : 1 ≤ R.frames ∧ 60 ≤ R.locals)
    (kk : am_K p l e R s m args below meth c Q s0 xa D cl nL n0 z0 pc' lv' st' μ') :
    W p l e R s m args below meth c H locs cells slots Q (F0 m pc ls (st.map (am_cv s0.heap.size xa))) := by
  have hB2 := hB
  obtain ⟨hx, hb, hml, hown, hts, hnt, hK, hal, hret, hlocks, hini⟩ := hB
  cases i with
  | iconst n =>
    obtain rfl : len = 1 := eq_of_beq hlen
    obtain ⟨rfl, rfl, rfl, rfl⟩ := am_nx_inv hs
    exact lv_iconst hx hb hd rfl (kk H ls locs cells slots hR hl hloc hcs hsl)
  | bipush n =>
    obtain rfl : len = 2 := eq_of_beq hlen
    obtain ⟨rfl, rfl, rfl, rfl⟩ := am_nx_inv hs
    exact lv_bipush hx hb hd rfl (kk H ls locs cells slots hR hl hloc hcs hsl)
  | sipush n =>
    obtain rfl : len = 3 := eq_of_beq hlen
    obtain ⟨rfl, rfl, rfl, rfl⟩ := am_nx_inv hs
    exact lv_sipush hx hb hd rfl (kk H ls locs cells slots hR hl hloc hcs hsl)
  | lconst n =>
    obtain rfl : len = 1 := eq_of_beq hlen
    obtain ⟨rfl, rfl, rfl, rfl⟩ := am_nx_inv hs
    exact lv_lconst hx hb hd rfl (kk H ls locs cells slots hR hl hloc hcs hsl)
  | ldc ix =>
    obtain rfl : len = 2 := eq_of_beq hlen
    simp only [am_step] at hs
    split at hs
    · rename_i v hv
      obtain ⟨rfl, rfl, rfl, rfl⟩ := am_nx_inv hs
      exact lv_ldc hx hb hown (hts _ (ok.2.2.2.1 _ _ _ hv)) hd (kk H ls locs cells slots hR hl hloc hcs hsl)
    · split at hs
      · rename_i r hr
        obtain ⟨rfl, rfl, rfl, rfl⟩ := am_nx_inv hs
        obtain ⟨h16, tx, htx⟩ := hXX.2.1 _ _ _ hr
        refine va_ldcS hx hb hown (vk_R.warm hWm htx) hd ?_
        have := kk H ls locs cells slots hR hl hloc hcs hsl
        rw [List.map_cons] at this
        simp only [am_cv, am_ad, if_pos h16] at this
        exact this
      · cases hs
  | getstatic ix =>
    obtain rfl : len = 3 := eq_of_beq hlen
    simp only [am_step] at hs
    split at hs
    · rename_i v hv
      obtain ⟨rfl, rfl, rfl, rfl⟩ := am_nx_inv hs
      obtain ⟨C, n, d, hlk, hZ⟩ := hXX.1 _ _ _ hv
      obtain ⟨cf, kf, fi, f, a, cell, h1, h2, h3, h4, h5, h6, h7, h8⟩ := va_Z.moved hal hZ
      exact W.gets hx hb hown (hts _ hlk) h1 h2 h3 h4 (by rw [hR.2.2.1 a (Nat.lt_of_not_le h8)]; exact h5) (fun e => by rw [e] at h6; cases h6) h7 rfl hd (kk H ls locs cells slots hR hl hloc hcs hsl)
    · cases hs
  | invokestatic ix =>
    obtain rfl : len = 3 := eq_of_beq hlen
    rcases am_ivs_inv hs with ⟨hmi, y, x, rest, rfl, hsum, rfl, rfl, rfl, rfl⟩ | hs
    · obtain ⟨w1, w2, w3, w4⟩ := hXX.2.2.2.2.2 _ _ hmi
      refine va_mmin hx hb (hml.trans hl.1.symm) hown (hts _ w1) (hts _ w2) (hts _ w3) (hts _ w4) hfr.1 ?_ (by omega) (by omega) hd (kk H ls locs cells slots hR hl hloc hcs hsl)
      have e : (rest.map (am_cv s0.heap.size xa)).map (fun v => v.category) = rest.map (fun v => v.category) := by
        rw [List.map_map]
        exact List.map_congr_left fun v _ => am_cv_cat _ _ v
      rw [e]
      omega
    obtain ⟨n, dp, b, sp, a, rest, rfl, hac, hk, ⟨h3, h2, h1⟩, ⟨h4, h5⟩, hsum, rfl, rfl, rfl, rfl⟩ := am_acp_inv hs
    exact am_cpy hB2 hXX hR hloc hac hk h3 h2 h1 h4 h5 hsum hl.1 hfr hd (fun H9 locs9 hR9 hl9 => kk H9 ls locs9 cells slots hR9 hl hl9 hcs hsl)
  | ldc_w ix =>
    obtain rfl : len = 3 := eq_of_beq hlen
    simp only [am_step] at hs
    split at hs
    · rename_i v hv
      obtain ⟨rfl, rfl, rfl, rfl⟩ := am_nx_inv hs
      exact lv_ldcw hx hb hown (hts _ (ok.2.2.2.1 _ _ _ hv)) hd (kk H ls locs cells slots hR hl hloc hcs hsl)
    · cases hs
  | ldc2_w ix =>
    obtain rfl : len = 3 := eq_of_beq hlen
    simp only [am_step] at hs
    split at hs
    · rename_i v hv
      obtain ⟨rfl, rfl, rfl, rfl⟩ := am_nx_inv hs
      exact lv_ldc2 hx hb hown (hts _ (ok.2.2.2.2.1 _ _ _ hv)) hd (kk H ls locs cells slots hR hl hloc hcs hsl)
    · cases hs
  | iload_n k =>
    obtain rfl : len = 1 := eq_of_beq hlen
    obtain ⟨x, hg, rfl, rfl, rfl, rfl⟩ := am_ild_inv hs
    exact lv_iload_n hx hb hd rfl (am_get hl hg) (kk H ls locs cells slots hR hl hloc hcs hsl)
  | iload k =>
    obtain rfl : len = 2 := eq_of_beq hlen
    obtain ⟨x, hg, rfl, rfl, rfl, rfl⟩ := am_ild_inv hs
    exact lv_iload hx hb hd (am_get hl hg) (kk H ls locs cells slots hR hl hloc hcs hsl)
  | lload_n k =>
    obtain rfl : len = 1 := eq_of_beq hlen
    obtain ⟨x, hg, rfl, rfl, rfl, rfl⟩ := am_lld_inv hs
    exact lv_lload_n hx hb hd rfl (am_get hl hg) (kk H ls locs cells slots hR hl hloc hcs hsl)
  | lload k =>
    obtain rfl : len = 2 := eq_of_beq hlen
    obtain ⟨x, hg, rfl, rfl, rfl, rfl⟩ := am_lld_inv hs
    exact lv_lload hx hb hd (am_get hl hg) (kk H ls locs cells slots hR hl hloc hcs hsl)
  | aload_n k =>
    obtain rfl : len = 1 := eq_of_beq hlen
    obtain ⟨x, hg, rfl, rfl, rfl, rfl⟩ := am_ald_inv hs
    exact lv_aload_n hx hb hd rfl (am_get hl hg) (kk H ls locs cells slots hR hl hloc hcs hsl)
  | aload k =>
    obtain rfl : len = 2 := eq_of_beq hlen
    obtain ⟨x, hg, rfl, rfl, rfl, rfl⟩ := am_ald_inv hs
    exact lv_aload hx hb hd (am_get hl hg) (kk H ls locs cells slots hR hl hloc hcs hsl)
  | istore_n k =>
    obtain rfl : len = 1 := eq_of_beq hlen
    obtain ⟨x, rest, rfl, hi, rfl, rfl, rfl, rfl⟩ := am_ist_inv hs
    exact lv_istore_n hx hb hd rfl hl hi rfl (fun ls9 hl9 => kk H ls9 locs cells slots hR (am_h1 hl9) hloc hcs hsl)
  | istore k =>
    obtain rfl : len = 2 := eq_of_beq hlen
    obtain ⟨x, rest, rfl, hi, rfl, rfl, rfl, rfl⟩ := am_ist_inv hs
    exact lv_istore hx hb hd hl hi rfl (fun ls9 hl9 => kk H ls9 locs cells slots hR (am_h1 hl9) hloc hcs hsl)
  | lstore_n k =>
    obtain rfl : len = 1 := eq_of_beq hlen
    obtain ⟨x, rest, rfl, hi, rfl, rfl, rfl, rfl⟩ := am_lst_inv hs
    exact lv_lstore_n hx hb hd rfl hl hi rfl (fun ls9 hl9 => kk H ls9 locs cells slots hR (am_h2 hl9) hloc hcs hsl)
  | lstore k =>
    obtain rfl : len = 2 := eq_of_beq hlen
    obtain ⟨x, rest, rfl, hi, rfl, rfl, rfl, rfl⟩ := am_lst_inv hs
    exact lv_lstore hx hb hd hl hi rfl (fun ls9 hl9 => kk H ls9 locs cells slots hR (am_h2 hl9) hloc hcs hsl)
  | astore_n k =>
    obtain rfl : len = 1 := eq_of_beq hlen
    obtain ⟨x, rest, rfl, hi, rfl, rfl, rfl, rfl⟩ := am_ast_inv hs
    exact lv_astore_n hx hb hd rfl hl hi rfl (fun ls9 hl9 => kk H ls9 locs cells slots hR (am_h1 hl9) hloc hcs hsl)
  | astore k =>
    obtain rfl : len = 2 := eq_of_beq hlen
    obtain ⟨x, rest, rfl, hi, rfl, rfl, rfl, rfl⟩ := am_ast_inv hs
    exact lv_astore hx hb hd hl hi rfl (fun ls9 hl9 => kk H ls9 locs cells slots hR (am_h1 hl9) hloc hcs hsl)
  | iinc k n =>
    obtain rfl : len = 3 := eq_of_beq hlen
    simp only [am_step] at hs
    split at hs
    · rename_i x hg
      split at hs
      · rename_i hi
        obtain ⟨rfl, rfl, rfl, rfl⟩ := am_nx_inv hs
        obtain ⟨q, hq⟩ := am_geti (h0 := s0.heap.size) (xa := xa) hg
        exact lv_iinc hx hb hd hl hq rfl hi rfl (fun ls9 hl9 => kk H ls9 locs cells slots hR (am_h1 hl9) hloc hcs hsl)
      · cases hs
    · cases hs
  | iadd =>
    obtain rfl : len = 1 := eq_of_beq hlen
    obtain ⟨x, y, rest, rfl, rfl, rfl, rfl, rfl⟩ := am_i2_inv hs
    exact lv_iadd hx hb hd (kk H ls locs cells slots hR hl hloc hcs hsl)
  | isub =>
    obtain rfl : len = 1 := eq_of_beq hlen
    obtain ⟨x, y, rest, rfl, rfl, rfl, rfl, rfl⟩ := am_i2_inv hs
    exact lv_isub hx hb hd (kk H ls locs cells slots hR hl hloc hcs hsl)
  | imul =>
    obtain rfl : len = 1 := eq_of_beq hlen
    obtain ⟨x, y, rest, rfl, rfl, rfl, rfl, rfl⟩ := am_i2_inv hs
    exact lv_imul hx hb hd (kk H ls locs cells slots hR hl hloc hcs hsl)
  | iand =>
    obtain rfl : len = 1 := eq_of_beq hlen
    obtain ⟨x, y, rest, rfl, rfl, rfl, rfl, rfl⟩ := am_i2_inv hs
    exact lv_iand hx hb hd (kk H ls locs cells slots hR hl hloc hcs hsl)
  | ior =>
    obtain rfl : len = 1 := eq_of_beq hlen
    obtain ⟨x, y, rest, rfl, rfl, rfl, rfl, rfl⟩ := am_i2_inv hs
    exact lv_ior hx hb hd (kk H ls locs cells slots hR hl hloc hcs hsl)
  | ixor =>
    obtain rfl : len = 1 := eq_of_beq hlen
    obtain ⟨x, y, rest, rfl, rfl, rfl, rfl, rfl⟩ := am_i2_inv hs
    exact lv_ixor hx hb hd (kk H ls locs cells slots hR hl hloc hcs hsl)
  | ishl =>
    obtain rfl : len = 1 := eq_of_beq hlen
    obtain ⟨x, y, rest, rfl, rfl, rfl, rfl, rfl⟩ := am_i2_inv hs
    exact lv_ishl hx hb hd (kk H ls locs cells slots hR hl hloc hcs hsl)
  | ishr =>
    obtain rfl : len = 1 := eq_of_beq hlen
    obtain ⟨x, y, rest, rfl, rfl, rfl, rfl, rfl⟩ := am_i2_inv hs
    exact lv_ishr hx hb hd (kk H ls locs cells slots hR hl hloc hcs hsl)
  | iushr =>
    obtain rfl : len = 1 := eq_of_beq hlen
    obtain ⟨x, y, rest, rfl, rfl, rfl, rfl, rfl⟩ := am_i2_inv hs
    exact lv_iushr hx hb hd rfl (kk H ls locs cells slots hR hl hloc hcs hsl)
  | idiv =>
    obtain rfl : len = 1 := eq_of_beq hlen
    obtain ⟨x, y, rest, rfl, hz, rfl, rfl, rfl, rfl⟩ := am_i2z_inv hs
    exact lv_idiv hx hb hd hz (kk H ls locs cells slots hR hl hloc hcs hsl)
  | irem =>
    obtain rfl : len = 1 := eq_of_beq hlen
    obtain ⟨x, y, rest, rfl, hz, rfl, rfl, rfl, rfl⟩ := am_i2z_inv hs
    exact lv_irem hx hb hd hz (kk H ls locs cells slots hR hl hloc hcs hsl)
  | ineg =>
    obtain rfl : len = 1 := eq_of_beq hlen
    obtain ⟨x, rest, rfl, rfl, rfl, rfl, rfl⟩ := am_i1_inv hs
    exact lv_ineg hx hb hd (kk H ls locs cells slots hR hl hloc hcs hsl)
  | ladd =>
    obtain rfl : len = 1 := eq_of_beq hlen
    obtain ⟨x, y, rest, rfl, rfl, rfl, rfl, rfl⟩ := am_l2_inv hs
    exact lv_ladd hx hb hd (kk H ls locs cells slots hR hl hloc hcs hsl)
  | lsub =>
    obtain rfl : len = 1 := eq_of_beq hlen
    obtain ⟨x, y, rest, rfl, rfl, rfl, rfl, rfl⟩ := am_l2_inv hs
    exact lv_lsub hx hb hd (kk H ls locs cells slots hR hl hloc hcs hsl)
  | lmul =>
    obtain rfl : len = 1 := eq_of_beq hlen
    obtain ⟨x, y, rest, rfl, rfl, rfl, rfl, rfl⟩ := am_l2_inv hs
    exact lv_lmul hx hb hd (kk H ls locs cells slots hR hl hloc hcs hsl)
  | land =>
    obtain rfl : len = 1 := eq_of_beq hlen
    obtain ⟨x, y, rest, rfl, rfl, rfl, rfl, rfl⟩ := am_l2_inv hs
    exact lv_land hx hb hd (kk H ls locs cells slots hR hl hloc hcs hsl)
  | lor =>
    obtain rfl : len = 1 := eq_of_beq hlen
    obtain ⟨x, y, rest, rfl, rfl, rfl, rfl, rfl⟩ := am_l2_inv hs
    exact lv_lor hx hb hd (kk H ls locs cells slots hR hl hloc hcs hsl)
  | ldiv =>
    obtain rfl : len = 1 := eq_of_beq hlen
    obtain ⟨x, y, rest, rfl, hz, rfl, rfl, rfl, rfl⟩ := am_l2z_inv hs
    exact lv_ldiv hx hb hd hz (kk H ls locs cells slots hR hl hloc hcs hsl)
  | lrem =>
    obtain rfl : len = 1 := eq_of_beq hlen
    obtain ⟨x, y, rest, rfl, hz, rfl, rfl, rfl, rfl⟩ := am_l2z_inv hs
    exact lv_lrem hx hb hd hz (kk H ls locs cells slots hR hl hloc hcs hsl)
  | lushr =>
    obtain rfl : len = 1 := eq_of_beq hlen
    obtain ⟨x, y, rest, rfl, rfl, rfl, rfl, rfl⟩ := am_lsh_inv hs
    exact lv_lushr hx hb hd rfl (kk H ls locs cells slots hR hl hloc hcs hsl)
  | lshl =>
    obtain rfl : len = 1 := eq_of_beq hlen
    obtain ⟨x, y, rest, rfl, rfl, rfl, rfl, rfl⟩ := am_lsh_inv hs
    exact lv_lshl hx hb hd rfl (kk H ls locs cells slots hR hl hloc hcs hsl)
  | lshr =>
    obtain rfl : len = 1 := eq_of_beq hlen
    obtain ⟨x, y, rest, rfl, rfl, rfl, rfl, rfl⟩ := am_lsh_inv hs
    exact lv_lshr hx hb hd rfl (kk H ls locs cells slots hR hl hloc hcs hsl)
  | i2l =>
    obtain rfl : len = 1 := eq_of_beq hlen
    obtain ⟨x, rest, rfl, rfl, rfl, rfl, rfl⟩ := am_i1_inv hs
    exact lv_i2l hx hb hd rfl (kk H ls locs cells slots hR hl hloc hcs hsl)
  | i2b =>
    obtain rfl : len = 1 := eq_of_beq hlen
    obtain ⟨x, rest, rfl, rfl, rfl, rfl, rfl⟩ := am_i1_inv hs
    exact lv_i2b hx hb hd rfl (kk H ls locs cells slots hR hl hloc hcs hsl)
  | i2s =>
    obtain rfl : len = 1 := eq_of_beq hlen
    obtain ⟨x, rest, rfl, rfl, rfl, rfl, rfl⟩ := am_i1_inv hs
    exact lv_i2s hx hb hd rfl (kk H ls locs cells slots hR hl hloc hcs hsl)
  | i2c =>
    obtain rfl : len = 1 := eq_of_beq hlen
    obtain ⟨x, rest, rfl, rfl, rfl, rfl, rfl⟩ := am_i1_inv hs
    exact lv_i2c hx hb hd rfl (kk H ls locs cells slots hR hl hloc hcs hsl)
  | lcmp =>
    obtain rfl : len = 1 := eq_of_beq hlen
    simp only [am_step] at hs
    split at hs
    · obtain ⟨rfl, rfl, rfl, rfl⟩ := am_nx_inv hs
      exact W.lcmp hx hb hd (kk H ls locs cells slots hR hl hloc hcs hsl)
    · cases hs
  | l2i =>
    obtain rfl : len = 1 := eq_of_beq hlen
    simp only [am_step] at hs
    split at hs
    · obtain ⟨rfl, rfl, rfl, rfl⟩ := am_nx_inv hs
      exact lv_l2i hx hb hd rfl (kk H ls locs cells slots hR hl hloc hcs hsl)
    · cases hs
  | dup =>
    obtain rfl : len = 1 := eq_of_beq hlen
    simp only [am_step] at hs
    split at hs
    · split at hs
      · rename_i hc
        obtain ⟨rfl, rfl, rfl, rfl⟩ := am_nx_inv hs
        exact lv_dup hx hb hd (by rw [am_cv_cat]; exact hc) (kk H ls locs cells slots hR hl hloc hcs hsl)
      · cases hs
    · cases hs
  | pop =>
    obtain rfl : len = 1 := eq_of_beq hlen
    simp only [am_step] at hs
    split at hs
    · split at hs
      · rename_i hc
        obtain ⟨rfl, rfl, rfl, rfl⟩ := am_nx_inv hs
        exact lv_pop hx hb hd (by rw [am_cv_cat]; exact hc) (kk H ls locs cells slots hR hl hloc hcs hsl)
      · cases hs
    · cases hs
  | dup_x1 =>
    obtain rfl : len = 1 := eq_of_beq hlen
    simp only [am_step] at hs
    split at hs
    · split at hs
      · rename_i hc
        obtain ⟨rfl, rfl, rfl, rfl⟩ := am_nx_inv hs
        exact lv_dup_x1 hx hb hd (by rw [am_cv_cat]; exact hc.1) (by rw [am_cv_cat]; exact hc.2) (kk H ls locs cells slots hR hl hloc hcs hsl)
      · cases hs
    · cases hs
  | dup2 =>
    obtain rfl : len = 1 := eq_of_beq hlen
    simp only [am_step] at hs
    split at hs
    · split at hs
      · rename_i hc
        obtain ⟨rfl, rfl, rfl, rfl⟩ := am_nx_inv hs
        exact lv_dup2_11 hx hb hd (by rw [am_cv_cat]; exact hc.1) (by rw [am_cv_cat]; exact hc.2) (kk H ls locs cells slots hR hl hloc hcs hsl)
      · cases hs
    · cases hs
  | ifCond c off =>
    obtain rfl : len = 3 := eq_of_beq hlen
    simp only [am_step] at hs
    split at hs
    · cases c with
      | eq =>
        obtain ⟨t, ht, hbr, rfl, rfl, rfl⟩ := am_br_inv hs
        rcases hbr with ⟨hc, rfl⟩ | ⟨hc, rfl⟩
        · exact lv_if_eq hx hb hd ht (fun _ => (kk H ls locs cells slots hR hl hloc hcs hsl)) (fun h => absurd hc h)
        · exact lv_if_eq hx hb hd ht (fun h => absurd h hc) (fun _ => (kk H ls locs cells slots hR hl hloc hcs hsl))
      | ne =>
        obtain ⟨t, ht, hbr, rfl, rfl, rfl⟩ := am_br_inv hs
        rcases hbr with ⟨hc, rfl⟩ | ⟨hc, rfl⟩
        · exact lv_if_ne hx hb hd ht (fun _ => (kk H ls locs cells slots hR hl hloc hcs hsl)) (fun h => absurd h hc)
        · exact lv_if_ne hx hb hd ht (fun h => absurd h hc) (fun _ => (kk H ls locs cells slots hR hl hloc hcs hsl))
      | lt =>
        obtain ⟨t, ht, hbr, rfl, rfl, rfl⟩ := am_br_inv hs
        rcases hbr with ⟨hc, rfl⟩ | ⟨hc, rfl⟩
        · exact lv_if_lt hx hb hd ht (fun _ => (kk H ls locs cells slots hR hl hloc hcs hsl)) (fun h => absurd hc h)
        · exact lv_if_lt hx hb hd ht (fun h => absurd h hc) (fun _ => (kk H ls locs cells slots hR hl hloc hcs hsl))
      | ge =>
        obtain ⟨t, ht, hbr, rfl, rfl, rfl⟩ := am_br_inv hs
        rcases hbr with ⟨hc, rfl⟩ | ⟨hc, rfl⟩
        · exact lv_if_ge hx hb hd ht (fun _ => (kk H ls locs cells slots hR hl hloc hcs hsl)) (fun h => absurd hc h)
        · exact lv_if_ge hx hb hd ht (fun h => absurd h hc) (fun _ => (kk H ls locs cells slots hR hl hloc hcs hsl))
      | gt =>
        obtain ⟨t, ht, hbr, rfl, rfl, rfl⟩ := am_br_inv hs
        rcases hbr with ⟨hc, rfl⟩ | ⟨hc, rfl⟩
        · exact lv_if_gt hx hb hd ht (fun _ => (kk H ls locs cells slots hR hl hloc hcs hsl)) (fun h => absurd hc h)
        · exact lv_if_gt hx hb hd ht (fun h => absurd h hc) (fun _ => (kk H ls locs cells slots hR hl hloc hcs hsl))
      | le =>
        obtain ⟨t, ht, hbr, rfl, rfl, rfl⟩ := am_br_inv hs
        rcases hbr with ⟨hc, rfl⟩ | ⟨hc, rfl⟩
        · exact lv_if_le hx hb hd ht (fun _ => (kk H ls locs cells slots hR hl hloc hcs hsl)) (fun h => absurd hc h)
        · exact lv_if_le hx hb hd ht (fun h => absurd h hc) (fun _ => (kk H ls locs cells slots hR hl hloc hcs hsl))
    · cases hs
  | if_icmp c off =>
    obtain rfl : len = 3 := eq_of_beq hlen
    simp only [am_step] at hs
    split at hs
    · cases c with
      | eq =>
        obtain ⟨t, ht, hbr, rfl, rfl, rfl⟩ := am_br_inv hs
        rcases hbr with ⟨hc, rfl⟩ | ⟨hc, rfl⟩
        · exact lv_icmp_eq hx hb hd ht (fun _ => (kk H ls locs cells slots hR hl hloc hcs hsl)) (fun h => absurd hc h)
        · exact lv_icmp_eq hx hb hd ht (fun h => absurd h hc) (fun _ => (kk H ls locs cells slots hR hl hloc hcs hsl))
      | ne =>
        obtain ⟨t, ht, hbr, rfl, rfl, rfl⟩ := am_br_inv hs
        rcases hbr with ⟨hc, rfl⟩ | ⟨hc, rfl⟩
        · exact lv_icmp_ne hx hb hd ht (fun _ => (kk H ls locs cells slots hR hl hloc hcs hsl)) (fun h => absurd h hc)
        · exact lv_icmp_ne hx hb hd ht (fun h => absurd h hc) (fun _ => (kk H ls locs cells slots hR hl hloc hcs hsl))
      | lt =>
        obtain ⟨t, ht, hbr, rfl, rfl, rfl⟩ := am_br_inv hs
        rcases hbr with ⟨hc, rfl⟩ | ⟨hc, rfl⟩
        · exact lv_icmp_lt hx hb hd ht (fun _ => (kk H ls locs cells slots hR hl hloc hcs hsl)) (fun h => absurd hc h)
        · exact lv_icmp_lt hx hb hd ht (fun h => absurd h hc) (fun _ => (kk H ls locs cells slots hR hl hloc hcs hsl))
      | ge =>
        obtain ⟨t, ht, hbr, rfl, rfl, rfl⟩ := am_br_inv hs
        rcases hbr with ⟨hc, rfl⟩ | ⟨hc, rfl⟩
        · exact lv_icmp_ge hx hb hd ht (fun _ => (kk H ls locs cells slots hR hl hloc hcs hsl)) (fun h => absurd hc h)
        · exact lv_icmp_ge hx hb hd ht (fun h => absurd h hc) (fun _ => (kk H ls locs cells slots hR hl hloc hcs hsl))
      | gt =>
        obtain ⟨t, ht, hbr, rfl, rfl, rfl⟩ := am_br_inv hs
        rcases hbr with ⟨hc, rfl⟩ | ⟨hc, rfl⟩
        · exact lv_icmp_gt hx hb hd ht (fun _ => (kk H ls locs cells slots hR hl hloc hcs hsl)) (fun h => absurd hc h)
        · exact lv_icmp_gt hx hb hd ht (fun h => absurd h hc) (fun _ => (kk H ls locs cells slots hR hl hloc hcs hsl))
      | le =>
        obtain ⟨t, ht, hbr, rfl, rfl, rfl⟩ := am_br_inv hs
        rcases hbr with ⟨hc, rfl⟩ | ⟨hc, rfl⟩
        · exact lv_icmp_le hx hb hd ht (fun _ => (kk H ls locs cells slots hR hl hloc hcs hsl)) (fun h => absurd hc h)
        · exact lv_icmp_le hx hb hd ht (fun h => absurd h hc) (fun _ => (kk H ls locs cells slots hR hl hloc hcs hsl))
    · cases hs
  | goto off =>
    obtain rfl : len = 3 := eq_of_beq hlen
    obtain ⟨ht, rfl, rfl, rfl⟩ := am_jmp_inv hs
    exact lv_goto hx hb hd ht (kk H ls locs cells slots hR hl hloc hcs hsl)
  | tableswitch dflt lo hi offs =>
    simp only [am_step] at hs
    unfold am_swt at hs
    split at hs
    · split at hs
      · rename_i hc
        obtain ⟨ht, rfl, rfl, rfl⟩ := am_jmp_inv hs
        exact lv_tableOut hx hb hd hc ht (kk H ls locs cells slots hR hl hloc hcs hsl)
      · rename_i hc
        split at hs
        · rename_i off ho
          obtain ⟨ht, rfl, rfl, rfl⟩ := am_jmp_inv hs
          exact lv_tableIn hx hb hd (fun h => hc (Or.inl h)) (fun h => hc (Or.inr h)) ho ht (kk H ls locs cells slots hR hl hloc hcs hsl)
        · cases hs
    · cases hs
  | getfield ix =>
    obtain rfl : len = 3 := eq_of_beq hlen
    rcases am_fldx_inv hs with ⟨a, rest, v, rfl, hxf, rfl, rfl, rfl, rfl⟩ | ⟨a, rest, ci, f, rfl, hrf, hk, rfl, rfl, rfl, rfl⟩
    · obtain ⟨h16, C, n, d, hlk, hOF⟩ := hXX.2.2.1 _ _ _ _ hxf
      obtain ⟨cf, k, i, f, cell, h1', h2, h3, h4, h5, h6⟩ := va_OF.moved hal hOF
      have hlt : xa a < s0.heap.size := Nat.lt_of_not_le h6
      have had : am_ad s0.heap.size xa a = xa a := by unfold am_ad; rw [if_pos h16]
      exact W.getf hx hb hown (hts _ hlk) h1' h2 (by rw [had, hR.2.2.1 _ hlt]; exact h3) h4 h5 rfl rfl hd (kk H ls locs cells slots hR hl hloc hcs hsl)
    · exact am_rd hB2 ok hR hrf hk hd (kk H ls locs cells slots hR hl hloc hcs hsl)
  | putfield ix =>
    obtain rfl : len = 3 := eq_of_beq hlen
    obtain ⟨v, a, rest, ci, f, rfl, hrf, ⟨hk, hn, hft, hvk, hfi⟩, rfl, rfl, rfl, rfl⟩ := am_put_inv hs
    exact am_wr hB2 ok hR hrf hk hn hft hvk hfi hl hloc hd (fun H9 locs9 hR9 hl9 => kk H9 ls locs9 cells slots hR9 hl hl9 (by rw [(am_pO_n μ a f v).1]; exact hcs) (by rw [(am_pO_n μ a f v).2]; exact hsl))
  | iaload =>
    obtain rfl : len = 1 := eq_of_beq hlen
    obtain ⟨j, a, rest, rfl, hk, hin, rfl, rfl, rfl, rfl⟩ := am_xld_inv hs
    rcases hk with hk | hk
    · obtain ⟨h16, cell, h1, h2, h3, h4, h5⟩ := am_cell hal hR hk rfl
      exact W.iald hx hb h1 h2 h3 (by rw [h4]; exact hin) (h5 _ (am_xin hin)) rfl rfl hd (kk H ls locs cells slots hR hl hloc hcs hsl)
    · obtain ⟨cell, h1, h2, h3, h4, h5⟩ := am_cellx hal hR (hk.elim id id) rfl
      exact W.iald hx hb h1 h2 h3 (fun q => hin (q.imp id fun z => Nat.le_trans h4.1 z)) (h5 _ (am_xin hin)) rfl rfl hd (kk H ls locs cells slots hR hl hloc hcs hsl)
  | baload =>
    obtain rfl : len = 1 := eq_of_beq hlen
    obtain ⟨j, a, rest, rfl, hk, hin, rfl, rfl, rfl, rfl⟩ := am_xld_inv hs
    rcases hk with hk | hk | hk
    · obtain ⟨h16, cell, h1, h2, h3, h4, h5⟩ := am_cell hal hR hk rfl
      exact W.bald hx hb h1 h2 h3 (by rw [h4]; exact hin) (h5 _ (am_xin hin)) rfl rfl hd (kk H ls locs cells slots hR hl hloc hcs hsl)
    · obtain ⟨h16, cell, h1, h2, h3, h4, h5⟩ := am_cell hal hR hk rfl
      exact W.zald hx hb h1 h2 h3 (by rw [h4]; exact hin) (h5 _ (am_xin hin)) rfl rfl hd (kk H ls locs cells slots hR hl hloc hcs hsl)
    · obtain ⟨cell, h1, h2, h3, h4, h5⟩ := am_cellx hal hR hk rfl
      exact W.bald hx hb h1 h2 h3 (fun q => hin (q.imp id fun z => Nat.le_trans h4.1 z)) (h5 _ (am_xin hin)) rfl rfl hd (kk H ls locs cells slots hR hl hloc hcs hsl)
  | caload =>
    obtain rfl : len = 1 := eq_of_beq hlen
    obtain ⟨j, a, rest, rfl, hk, hin, rfl, rfl, rfl, rfl⟩ := am_xld_inv hs
    obtain ⟨h16, cell, h1, h2, h3, h4, h5⟩ := am_cell hal hR (t := 5) (hk.elim id fun h => h.elim id id) rfl
    exact W.cald hx hb h1 h2 h3 (by rw [h4]; exact hin) (h5 _ (am_xin hin)) rfl rfl hd (kk H ls locs cells slots hR hl hloc hcs hsl)
  | saload =>
    obtain rfl : len = 1 := eq_of_beq hlen
    obtain ⟨j, a, rest, rfl, hk, hin, rfl, rfl, rfl, rfl⟩ := am_xld_inv hs
    obtain ⟨h16, cell, h1, h2, h3, h4, h5⟩ := am_cell hal hR (t := 7) (hk.elim id fun h => h.elim id id) rfl
    exact W.sald hx hb h1 h2 h3 (by rw [h4]; exact hin) (h5 _ (am_xin hin)) rfl rfl hd (kk H ls locs cells slots hR hl hloc hcs hsl)
  | laload =>
    obtain rfl : len = 1 := eq_of_beq hlen
    obtain ⟨j, a, rest, rfl, hk, hin, rfl, rfl, rfl, rfl⟩ := am_xll_inv hs
    obtain ⟨h16, cell, h1, h2, h3, h4, h5⟩ := am_cell hal hR hk rfl
    exact W.lald hx hb h1 h2 h3 (by rw [h4]; exact hin) (h5 _ (am_xin hin)) rfl rfl hd (kk H ls locs cells slots hR hl hloc hcs hsl)
  | iastore =>
    obtain rfl : len = 1 := eq_of_beq hlen
    obtain ⟨x, j, a, rest, rfl, hk, hin, rfl, rfl, rfl, rfl⟩ := am_xst_inv hs
    rcases hk with hk | hk
    · obtain ⟨h16, cell, h1, h2, h3, h4, h5⟩ := am_cell hal hR hk rfl
      refine W.iast hx hb h1 h2 h3 (by rw [h4]; exact hin) rfl rfl hd (fun H9 e1 e2 e3 => kk H9 ls _ cells slots (hR.pA (t := 2) (by rw [← hk]) rfl (by decide) (am_xin hin) h1 ?_ e2 e3) hl (am_locs h16 hloc) hcs hsl)
      rw [hk]; exact e1
    · obtain ⟨h16, cell, h1, h2, h3, h4, h5⟩ := am_cell hal hR hk rfl
      refine W.iast hx hb h1 h2 h3 (by rw [h4]; exact hin) rfl rfl hd (fun H9 e1 e2 e3 => kk H9 ls _ cells slots (hR.pA (t := 2) (by rw [← hk]) rfl (by decide) (am_xin hin) h1 ?_ e2 e3) hl (am_locs h16 hloc) hcs hsl)
      rw [hk]; exact e1
  | bastore =>
    obtain rfl : len = 1 := eq_of_beq hlen
    obtain ⟨x, j, a, rest, rfl, hk, hin, rfl, rfl, rfl, rfl⟩ := am_xst_inv hs
    rcases hk with hk | hk
    · obtain ⟨h16, cell, h1, h2, h3, h4, h5⟩ := am_cell hal hR hk rfl
      refine W.bast hx hb h1 h2 h3 (by rw [h4]; exact hin) rfl rfl hd (fun H9 e1 e2 e3 => kk H9 ls _ cells slots (hR.pA (t := 3) (by rw [← hk]) rfl (by decide) (am_xin hin) h1 ?_ e2 e3) hl (am_locs h16 hloc) hcs hsl)
      rw [hk]; exact e1
    · obtain ⟨h16, cell, h1, h2, h3, h4, h5⟩ := am_cell hal hR hk rfl
      refine W.zast hx hb h1 h2 h3 (by rw [h4]; exact hin) rfl rfl hd (fun H9 e1 e2 e3 => kk H9 ls _ cells slots (hR.pA (t := 4) (by rw [← hk]) rfl (by decide) (am_xin hin) h1 ?_ e2 e3) hl (am_locs h16 hloc) hcs hsl)
      rw [hk]; exact e1
  | castore =>
    obtain rfl : len = 1 := eq_of_beq hlen
    obtain ⟨x, j, a, rest, rfl, hk, hin, rfl, rfl, rfl, rfl⟩ := am_xst_inv hs
    rcases hk with hk | hk
    · obtain ⟨h16, cell, h1, h2, h3, h4, h5⟩ := am_cell hal hR hk rfl
      refine W.cast hx hb h1 h2 h3 (by rw [h4]; exact hin) rfl rfl hd (fun H9 e1 e2 e3 => kk H9 ls _ cells slots (hR.pA (t := 5) (by rw [← hk]) rfl (by decide) (am_xin hin) h1 ?_ e2 e3) hl (am_locs h16 hloc) hcs hsl)
      rw [hk]; exact e1
    · obtain ⟨h16, cell, h1, h2, h3, h4, h5⟩ := am_cell hal hR hk rfl
      refine W.cast hx hb h1 h2 h3 (by rw [h4]; exact hin) rfl rfl hd (fun H9 e1 e2 e3 => kk H9 ls _ cells slots (hR.pA (t := 5) (by rw [← hk]) rfl (by decide) (am_xin hin) h1 ?_ e2 e3) hl (am_locs h16 hloc) hcs hsl)
      rw [hk]; exact e1
  | sastore =>
    obtain rfl : len = 1 := eq_of_beq hlen
    obtain ⟨x, j, a, rest, rfl, hk, hin, rfl, rfl, rfl, rfl⟩ := am_xst_inv hs
    rcases hk with hk | hk
    · obtain ⟨h16, cell, h1, h2, h3, h4, h5⟩ := am_cell hal hR hk rfl
      refine W.sast hx hb h1 h2 h3 (by rw [h4]; exact hin) rfl rfl hd (fun H9 e1 e2 e3 => kk H9 ls _ cells slots (hR.pA (t := 7) (by rw [← hk]) rfl (by decide) (am_xin hin) h1 ?_ e2 e3) hl (am_locs h16 hloc) hcs hsl)
      rw [hk]; exact e1
    · obtain ⟨h16, cell, h1, h2, h3, h4, h5⟩ := am_cell hal hR hk rfl
      refine W.sast hx hb h1 h2 h3 (by rw [h4]; exact hin) rfl rfl hd (fun H9 e1 e2 e3 => kk H9 ls _ cells slots (hR.pA (t := 7) (by rw [← hk]) rfl (by decide) (am_xin hin) h1 ?_ e2 e3) hl (am_locs h16 hloc) hcs hsl)
      rw [hk]; exact e1
  | lastore =>
    obtain rfl : len = 1 := eq_of_beq hlen
    obtain ⟨x, j, a, rest, rfl, hk, hin, rfl, rfl, rfl, rfl⟩ := am_xsl_inv hs
    obtain ⟨h16, cell, h1, h2, h3, h4, h5⟩ := am_cell hal hR hk rfl
    exact W.last hx hb h1 h2 h3 (by rw [h4]; exact hin) rfl rfl hd (fun H9 e1 e2 e3 => kk H9 ls _ cells slots (hR.pL (by rw [← hk]) (am_xin hin) h1 e1 e2 e3) hl (am_locs h16 hloc) hcs hsl)
  | arraylength =>
    obtain rfl : len = 1 := eq_of_beq hlen
    simp only [am_step] at hs
    split at hs
    · split at hs
      · rename_i a rest hk
        obtain ⟨rfl, rfl, rfl, rfl⟩ := am_nx_inv hs
        obtain ⟨cell, ty, h1, h2, h4⟩ := am_cellz hal hR hk
        exact W.alen hx hb h1 h2 h4 rfl rfl hd (kk H ls locs cells slots hR hl hloc hcs hsl)
      · cases hs
    · cases hs
  | newarray t =>
    obtain rfl : len = 2 := eq_of_beq hlen
    obtain ⟨x, rest, rfl, ht0, hx0, hx1, rfl, rfl, rfl, rfl⟩ := am_new_inv hs
    exact am_na hB2 ok hR ht0 hx0 hx1 hd hcs hsl hroom (fun H9 hR9 => kk H9 ls locs (cells + 1) (slots + x.toNatClampNeg) hR9 hl hloc (by show cells + 1 + n0 = am_n μ + 1; omega) (by show slots + x.toNatClampNeg + z0 = am_sl μ + x.toNatClampNeg; omega))
  | new ix =>
    obtain rfl : len = 3 := eq_of_beq hlen
    obtain ⟨ci, hrc, rfl, rfl, rfl, rfl⟩ := am_nob_inv hs
    exact am_no hB2 ok hR hrc hd hcs hsl hroom (fun H9 hR9 => kk H9 ls locs (cells + 1) (slots + am_cN G ci) hR9 hl hloc (by show cells + 1 + n0 = am_n μ + 1; omega) (by show slots + am_cN G ci + z0 = am_sl μ + am_cN G ci; omega))
  | invokespecial ix =>
    obtain rfl : len = 3 := eq_of_beq hlen
    obtain ⟨a, rest, rfl, hob, hsum, rfl, rfl, rfl, rfl⟩ := am_obi_inv hs
    obtain ⟨w1, w2, w3⟩ := ok.2.2.2.2.2.2 _ _ hob
    exact W.objInit hx hb hown (hts _ w1) (hts _ w2) (hts _ w3) rfl (hl.1.trans hml.symm) rfl hd hfr.1 (am_ro hsum (Nat.le_trans (by decide) hfr.2)) (kk H ls locs cells slots hR hl hloc hcs hsl)
  | ireturn =>
    simp only [am_step] at hs
    split at hs <;> first | (split at hs <;> cases hs) | cases hs
  | lreturn =>
    simp only [am_step] at hs
    split at hs <;> first | (split at hs <;> cases hs) | cases hs
  | areturn =>
    simp only [am_step] at hs
    split at hs <;> first | (split at hs <;> cases hs) | cases hs
  | return_ =>
    simp only [am_step] at hs
    split at hs <;> first | (split at hs <;> cases hs) | cases hs
  | _ => cases hs
end AMS
