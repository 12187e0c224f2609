/-! ===== an exception that is caught: the search through this method's rows may link their classes ===== -/
section AMX
/-- the search among rows: it ends at h, and the tables have become vm -/
def am_Srch (e : Env) (S : State) (f : JFrame) (a : Addr) (rows : List ExceptionTableEntry) (h : Handler) (vm : Vm) : Prop :=
  ∀ (Q : Handler → Pre) (E : CtlPost) (d : Bool) (acts : List Action), wp (findHandler.go f a rows) Q E e d acts S ↔ Q h d acts (S.setVm vm)
/-- one row whose name is linked now: it takes the exception, or the search goes on -/
theorem am_row {e : Env} {S : State} {f : JFrame} {a : Addr} {x : ExceptionTableEntry} {t : List ExceptionTableEntry} {k : ClassId} {ce : Cell} (hx : covers x f.pc = true) (h0 : x.catchType ≠ 0) (hl : S.vm.ClassLinks e.platform f.method.cls x.catchType k)
    (hce : S.heap[a]? = some ce) (hob : ∀ z, ce.vm ≠ .statics z) (hk1 : ∃ z, S.vm.classes[ce.cls]? = some z) (hk2 : ∃ z, S.vm.classes[k]? = some z) (Q : Handler → Pre) (E : CtlPost) (d : Bool) (acts : List Action) :
    wp (findHandler.go f a (x :: t)) Q E e d acts S ↔ if S.vm.assignable ce.cls k = true then Q (.found x.handlerPc) d acts (S.setVm (S.vm.noted f.method.cls x.catchType (.cls k))) else wp (findHandler.go f a t) Q E e d acts (S.setVm (S.vm.noted f.method.cls x.catchType (.cls k))) := by
  have hal : S.vm.Alike (S.vm.noted f.method.cls x.catchType (.cls k)) := (Vm.Alike.refl S.vm).noted _ _ _
  obtain ⟨u1, u2⟩ := (resolveClass_links e.toSetting hl).op (op := VmOp.resolveClass f.method.cls x.catchType) rfl
  obtain ⟨z1, hz1⟩ := hk1
  obtain ⟨z2, hz2⟩ := hk2
  obtain ⟨y1, hy1, -⟩ := hal.2.2 _ _ hz1
  obtain ⟨y2, hy2, -⟩ := hal.2.2 _ _ hz2
  simp only [covers] at hx
  by_cases ha : S.vm.assignable ce.cls k = true
  · have ha2 : (S.vm.noted f.method.cls x.catchType (.cls k)).assignable ce.cls k = true := by rw [hal.assignable]; exact ha
    rw [if_pos ha]
    simp [findHandler.go, hx, h0, u1, u2, hce, hob, hy1, hy2, ha2, VmOp.dirties, VmOp.acts]
  · have ha1 : S.vm.assignable ce.cls k = false := by simpa using ha
    have ha2 : (S.vm.noted f.method.cls x.catchType (.cls k)).assignable ce.cls k = false := by rw [hal.assignable]; exact ha1
    rw [if_neg ha]
    simp [findHandler.go, hx, h0, u1, u2, hce, hob, hy1, hy2, ha2, VmOp.dirties, VmOp.acts]
theorem am_srch {e : Env} {s : State} {f : JFrame} {a : Addr} {ce : Cell} (hob : ∀ z, ce.vm ≠ .statics z) (hk : ∃ z, s.vm.classes[ce.cls]? = some z) {x : ExceptionTableEntry} {suf : List ExceptionTableEntry} (hx : covers x f.pc = true) (h0 : x.catchType ≠ 0) {k : ClassId} (hl : s.vm.ClassLinks e.platform f.method.cls x.catchType k) (hfit : s.vm.assignable ce.cls k = true) :
    ∀ (pre : List ExceptionTableEntry) (S : State), s.WarmedH S.vm → S.heap[a]? = some ce → (∀ z ∈ pre, covers z f.pc = false ∨ (z.catchType ≠ 0 ∧ ∃ kz, s.vm.ClassLinks e.platform f.method.cls z.catchType kz ∧ s.vm.assignable ce.cls kz = false)) →
      ∃ vm, s.WarmedH vm ∧ am_Srch e S f a (pre ++ x :: suf) (.found x.handlerPc) vm := by
  obtain ⟨z0, hz0⟩ := hk
  intro pre
  induction pre with
  | nil =>
    intro S hW hce _
    obtain ⟨z1, hz1, -⟩ := hW.alike.2.2 _ _ hz0
    obtain ⟨dk, _, _, kt, hd, _, _, _, _, hkt, _, hop⟩ := hl.here
    obtain ⟨y, hy, -⟩ := hW.alike.2.2 _ _ hkt
    refine ⟨_, hW.noted hd hop (State.rightAt_cls hl), fun Q E d acts => ?_⟩
    rw [List.nil_append, am_row hx h0 (hW.classLinks hl) hce hob ⟨z1, hz1⟩ ⟨y, hy⟩, if_pos (by rw [hW.alike.assignable]; exact hfit)]
  | cons r rs ih =>
    intro S hW hce hps
    have hps2 : ∀ z ∈ rs, covers z f.pc = false ∨ (z.catchType ≠ 0 ∧ ∃ kz, s.vm.ClassLinks e.platform f.method.cls z.catchType kz ∧ s.vm.assignable ce.cls kz = false) := fun z hz => hps z (List.mem_cons_of_mem _ hz)
    cases hc : covers r f.pc with
    | false =>
      obtain ⟨vm, h1, h2⟩ := ih S hW hce hps2
      refine ⟨vm, h1, fun Q E d acts => ?_⟩
      rw [List.cons_append, W.findHandler_go_skip hc]
      exact h2 Q E d acts
    | true =>
      rcases hps r List.mem_cons_self with h | ⟨g0, kz, gl, gno⟩
      · rw [h] at hc; cases hc
      · obtain ⟨z1, hz1, -⟩ := hW.alike.2.2 _ _ hz0
        obtain ⟨dk, _, _, kt, hd, _, _, _, _, hkt, _, hop⟩ := gl.here
        obtain ⟨y, hy, -⟩ := hW.alike.2.2 _ _ hkt
        obtain ⟨vm, h1, h2⟩ := ih (S.setVm (S.vm.noted f.method.cls r.catchType (.cls kz))) (hW.noted hd hop (State.rightAt_cls gl)) hce hps2
        refine ⟨vm, h1, fun Q E d acts => ?_⟩
        rw [List.cons_append, am_row hc g0 (hW.classLinks gl) hce hob ⟨z1, hz1⟩ ⟨y, hy⟩, if_neg (by rw [hW.alike.assignable, gno]; decide)]
        exact h2 Q E d acts
/-- the machine's step on it -/
theorem am_caught {tb : Tables} {e : Env} {S target : State} {g : JFrame} {c : Code} {below : List Frame} {a : Addr} {meth : Method} (h : At S g.method c below) (hm : S.vm.method? g.method = some meth) (hc : meth.code = some c) {pc : Nat} {vm : Vm}
    (hs : am_Srch e ((S.setTop g).pushFrame (.throwing a)) g a c.exceptionTable.toList (.found pc) vm) (hrest : Steps tb e below ((S.setVm vm).setTop { g with pc := pc, stack := [.ref a] }) target) : Steps tb e below ((S.setTop g).pushFrame (.throwing a)) target := by
  obtain ⟨hgo, hw⟩ := h.throwing a
  have hvm : ((S.setTop g).pushFrame (.throwing a)).vm = S.vm := throwing_vm S g a
  have key : (stepThrowing e ((S.setTop g).pushFrame (.throwing a)) a (.java g :: S.frames.tail)).1 = (((S.setTop g).pushFrame (.throwing a)).setVm vm).setFrames (.java { g with pc := pc, stack := [.ref a] } :: S.frames.tail) := by
    simp only [stepThrowing, searchFrame, vmDo]
    generalize hr : Sem.go _ e false [] ((S.setTop g).pushFrame (.throwing a)) = res
    obtain ⟨as, rfl, -⟩ := Sem.eq_ok_of hr (a := Handler.found pc) (s' := ((S.setTop g).pushFrame (.throwing a)).setVm vm) (acts' := []) (by
      simp [W.findHandler_eq (show ((S.setTop g).pushFrame (.throwing a)).vm.method? g.method = some meth by rw [hvm]; exact hm) hc, hs _ _ _ _])
    rfl
  refine Steps.head hgo hw ?_
  rw [stepThread_throwing (frames_entered h.top _), key]
  obtain ⟨g0, hg0⟩ := Option.isSome_iff_exists.mp h.top
  obtain ⟨r, hr⟩ := State.topJava?_eq_some.mp hg0
  have hr2 : (S.setVm vm).frames = .java g0 :: r := hr
  have hsf : ∀ (u : State) (F K : List Frame), ((u.setFrames F).setVm vm).setFrames K = (u.setVm vm).setFrames K := fun u F K => by
    rw [show (u.setFrames F).setVm vm = (u.setVm vm).setFrames F from rfl, State.setFrames_setFrames]
  rw [State.setTop_of_frames _ hr2] at hrest
  rw [hr, List.tail_cons, State.pushFrame, hsf, State.setTop_of_frames _ hr, hsf]
  exact hrest
variable {p : Program} {l : Launch} {e : Env} {R : Room} {s : State} {m : MethodId} {args : Array Value} {below : List Frame} {meth : Method} {c : Code} {H : Heap} {locs : List Loc} {cells slots : Nat} {Q : State → Prop} {pc : Nat} {ls : Array Slot} {rest : List Value}
theorem am_catch {own name : String} {E : String} {ce : Cell} {q : Addr} (hown : s.vm.findClass own = some m.cls) (pre : List ExceptionTableEntry) (x : ExceptionTableEntry) (suf : List ExceptionTableEntry) (hsplit : c.exceptionTable.toList = pre ++ x :: suf)
    (hpass : ∀ z ∈ pre, covers z pc = false ∨ (z.catchType ≠ 0 ∧ ∃ nm : String, (Cond.classLink own z.catchType nm).before args s = true ∧ va_Nc E nm s)) (hx : covers x pc = true) (h0 : x.catchType ≠ 0)
    (hlink : (Cond.classLink own x.catchType name).before args s = true) (hcast : (Cond.castable E name).before args s = true) (hcell : H[q]? = some ce) (hv : ce.vm = .none) (hcl : s.vm.findClass E = some ce.cls)
    (kk : W p l e R s m args below meth c H locs cells slots Q (F0 m x.handlerPc ls [.ref q])) : vx_W p l e R s m args below meth c H locs cells slots Q (F0 m pc ls rest) q := by
  intro T hT X
  have hpl : e.platform.magicAccessors = ({} : Platform).magicAccessors := by rw [X.admits.platform]
  obtain ⟨c3, c4, hc3, hc4, hasg⟩ := Cond.castable_spec hcast
  cases Option.some.inj (hc3.symm.trans hcl)
  obtain ⟨c5, hc5, hcl5⟩ := Cond.classLink_spec hown hlink e.platform hpl
  cases Option.some.inj (hc4.symm.trans hc5)
  have hk : ∃ z, s.vm.classes[ce.cls]? = some z := by obtain ⟨k9, h9, -⟩ := Vm.findClass_spec hcl; exact ⟨k9, h9⟩
  have hvm : ((T.setTop (F0 m pc ls rest)).pushFrame (.throwing q)).vm = T.vm := throwing_vm T _ q
  have hhp : ((T.setTop (F0 m pc ls rest)).pushFrame (.throwing q)).heap = T.heap := throwing_heap T _ q
  obtain ⟨vm, hW, hs⟩ := am_srch (e := e) (s := s) (f := F0 m pc ls rest) (a := q) (ce := ce) (by rw [hv]; exact fun z h => by cases h) hk (x := x) (suf := suf) hx h0 hcl5 hasg pre ((T.setTop (F0 m pc ls rest)).pushFrame (.throwing q)) (by rw [hvm]; exact X.warmed) (by rw [hhp, hT]; exact hcell) (fun z hz => by
    rcases hpass z hz with h | ⟨hz0, nm, hl1, hn1⟩
    · exact Or.inl h
    · obtain ⟨c6, hc6, hcl6⟩ := Cond.classLink_spec hown hl1 e.platform hpl
      obtain ⟨a8, b8, h1, h2, h3⟩ := hn1
      cases Option.some.inj (h1.symm.trans hcl)
      cases Option.some.inj (h2.symm.trans hc6)
      exact Or.inr ⟨hz0, _, hcl6, h3⟩)
  obtain ⟨t, a1, b1⟩ := kk (T.setVm vm) hT (X.noted hW)
  refine ⟨t, am_caught (g := F0 m pc ls rest) X.here X.method' X.code (by rw [hsplit]; exact hs) a1, b1⟩
end AMX
