/-! A THROW THAT IS CAUGHT: the table's rows in their order; a row that covers the pc either takes the object or is passed. -/
def Tk (pl : Platform) (s0 : State) (d : ClassId) (pc : Nat) (th : ClassId) : List ExceptionTableEntry → Nat → Prop
  | [], _ => False
  | x :: t, h => (covers x pc = false ∧ Tk pl s0 d pc th t h) ∨ (covers x pc = true ∧ x.catchType ≠ 0 ∧ ∃ c, s0.vm.ClassLinks pl d x.catchType c ∧ ((s0.vm.assignable th c = true ∧ h = x.handlerPc) ∨ (s0.vm.assignable th c = false ∧ Tk pl s0 d pc th t h)))
theorem Tk.go {e : Env} {s0 : State} {f : JFrame} {a : Addr} {ce : Cell} (hv : ce.vm = .none) (hk : ∃ k, s0.vm.classes[ce.cls]? = some k) {h : Nat} : ∀ (t : List ExceptionTableEntry) (S : State), s0.WarmedH S.vm → S.heap[a]? = some ce → Tk e.platform s0 f.method.cls f.pc ce.cls t h →
    ∃ vm', s0.WarmedH vm' ∧ ∀ (Q : Handler → Pre) (E : CtlPost) (d : Bool) (acts : List Action), wp (findHandler.go f a t) Q E e d acts S ↔ Q (.found h) d acts (S.setVm vm')
  | [], _, _, _, ht => ht.elim
  | x :: t, S, hW, hc, ht => by
    rcases ht with ⟨h1, h2⟩ | ⟨h1, h0, c, hl, h3⟩
    · obtain ⟨vm', a1, a2⟩ := Tk.go hv hk t S hW hc h2
      exact ⟨vm', a1, fun Q E d acts => by rw [W.findHandler_go_skip h1]; exact a2 Q E d acts⟩
    · have hobj : ∀ k, ce.vm ≠ .statics k := fun k hk => by rw [hv] at hk; cases hk
      obtain ⟨k0, hk0⟩ := hk
      obtain ⟨dk, _, _, kt, hd, _, _, _, _, hkt, _, hopen⟩ := hl.here
      have hW2 : s0.WarmedH (S.vm.noted f.method.cls x.catchType (.cls c)) := hW.noted hd hopen (State.rightAt_cls hl)
      obtain ⟨ra, rt⟩ := (resolveClass_links e.toSetting (hW.classLinks hl)).op (op := VmOp.resolveClass f.method.cls x.catchType) rfl
      obtain ⟨k1, hk1, -⟩ := hW2.alike.2.2 _ _ hk0
      obtain ⟨k2, hk2, -⟩ := hW2.alike.2.2 _ _ hkt
      have hx : covers x f.pc = true := h1
      simp only [covers] at hx
      rcases h3 with ⟨h4, rfl⟩ | ⟨h4, h5⟩
      · have h6 : (S.vm.noted f.method.cls x.catchType (.cls c)).assignable ce.cls c = true := by rw [hW2.alike.assignable]; exact h4
        refine ⟨_, hW2, fun Q E d acts => ?_⟩
        simp [findHandler.go, hx, h0, ra, rt, hc, hobj, hk1, hk2, h6, VmOp.dirties, VmOp.acts]
      · have h6 : (S.vm.noted f.method.cls x.catchType (.cls c)).assignable ce.cls c = false := by rw [hW2.alike.assignable]; exact h4
        obtain ⟨vm', a1, a2⟩ := Tk.go hv ⟨k0, hk0⟩ t (S.setVm (S.vm.noted f.method.cls x.catchType (.cls c))) hW2 hc h5
        refine ⟨vm', a1, fun Q E d acts => ?_⟩
        rw [show Q (.found h) d acts (S.setVm vm') ↔ Q (.found h) d acts ((S.setVm (S.vm.noted f.method.cls x.catchType (.cls c))).setVm vm') from Iff.rfl, ← a2 Q E d acts]
        simp [findHandler.go, hx, h0, ra, rt, hc, hobj, hk1, hk2, h6, VmOp.dirties, VmOp.acts]
section CA
variable {p : Program} {l : Launch} {e : Env} {R : Room} {s : State} {m : MethodId} {args : Array Value} {below : List Frame} {meth : Method} {c : Code} {H : Heap} {locs : List Loc} {cells slots : Nat} {Q : State → Prop}
theorem caughtAt {T : State} (X : Stand p l e R s m args below meth c T locs cells slots) (a : Addr) {g : JFrame} (hg : g.method = m) {ce : Cell} (hc : T.heap[a]? = some ce) (hv : ce.vm = .none) (hk : ∃ k, s.vm.classes[ce.cls]? = some k) {h : Nat} (ht : Tk e.platform s m.cls g.pc ce.cls c.exceptionTable.toList h) :
    ∃ vm', Stand p l e R s m args below meth c (T.setVm vm') locs cells slots ∧ Steps p.tables e below ((T.setTop g).pushFrame (.throwing a)) ((T.setVm vm').setTop { g with pc := h, stack := [.ref a] }) := by
  subst hg
  obtain ⟨vm', a1, a2⟩ := Tk.go (e := e) (f := g) (a := a) hv hk _ ((T.setTop g).pushFrame (.throwing a)) X.warmed hc ht
  refine ⟨vm', X.noted a1, ?_⟩
  have hF : ∀ (Q : Handler → Pre) (E : CtlPost) (d : Bool) (acts : List Action), wp (findHandler g a) Q E e d acts ((T.setTop g).pushFrame (.throwing a)) ↔ Q (.found h) d acts (((T.setTop g).pushFrame (.throwing a)).setVm vm') := fun Q E d acts => by
    rw [W.findHandler_eq (s := (T.setTop g).pushFrame (.throwing a)) X.method' X.code]
    exact a2 Q E d acts
  obtain ⟨hgo, hw⟩ := X.here.throwing a
  refine Steps.head hgo hw ?_
  obtain ⟨g0, hfr⟩ := X.frames_eq
  have hfr2 : (T.setVm vm').frames = .java g0 :: below := hfr
  have h2 : (stepThrowing e ((T.setTop g).pushFrame (.throwing a)) a (.java g :: below)).Is ((((T.setTop g).pushFrame (.throwing a)).setVm vm').setFrames (.java { g with pc := h, stack := [.ref a] } :: below)) [] := by
    simp only [stepThrowing, searchFrame, vmDo]
    generalize hr : Sem.go _ e false [] ((T.setTop g).pushFrame (.throwing a)) = res
    obtain ⟨as, rfl, ha⟩ := Sem.eq_ok_of hr (a := Handler.found h) (s' := ((T.setTop g).pushFrame (.throwing a)).setVm vm') (acts' := []) (by simp [hF _ _ _ _])
    exact ⟨rfl, ha⟩
  rw [stepThread_throwing (frames_entered X.here.top _), hfr, List.tail_cons, h2.1, State.setTop_of_frames _ hfr2]
  have h3 : ∀ (u : State) (F G : List Frame), ((u.setFrames F).setVm vm').setFrames G = (u.setVm vm').setFrames G := fun u F G => by
    rw [show (u.setFrames F).setVm vm' = (u.setVm vm').setFrames F from rfl, State.setFrames_setFrames]
  rw [State.pushFrame, h3, State.setTop_of_frames _ hfr, h3]
  exact Steps.refl _
/-- the rows of a table: (from, to, handler, catch type) -/
abbrev xt4 (q : Nat × Nat × Nat × Nat) : ExceptionTableEntry := { startPc := q.1, endPc := q.2.1, handlerPc := q.2.2.1, catchType := q.2.2.2 }
/-- the first row takes it -/
theorem vx_take1 {own nm E : String} {ce : Cell} {q : Addr} {pc : Nat} {ls : Array Slot} {rest : List Value} (hown : s.vm.findClass own = some m.cls) {x : ExceptionTableEntry} {t : List ExceptionTableEntry} (ht : c.exceptionTable.toList = x :: t) (hx : covers x pc = true) (h0 : x.catchType ≠ 0)
    (hl : (Cond.classLink own x.catchType nm).before args s = true) (hcast : (Cond.castable E nm).before args s = true) (hcell : H[q]? = some ce) (hv : ce.vm = .none) (hcl : s.vm.findClass E = some ce.cls)
    (kk : W p l e R s m args below meth c H locs cells slots Q (F0 m x.handlerPc ls [.ref q])) : vx_W p l e R s m args below meth c H locs cells slots Q (F0 m pc ls rest) q := by
  intro T hT X
  have hpl : e.platform.magicAccessors = ({} : Platform).magicAccessors := by rw [X.admits.platform]
  obtain ⟨c3, c4, hc3, hc4, hasg⟩ := Cond.castable_spec hcast
  cases Option.some.inj (hc3.symm.trans hcl)
  obtain ⟨c5, hc5, hl5⟩ := Cond.classLink_spec hown hl e.platform hpl
  cases Option.some.inj (hc4.symm.trans hc5)
  obtain ⟨vm', X', st⟩ := caughtAt X q (g := F0 m pc ls rest) rfl (by rw [hT]; exact hcell) hv (by obtain ⟨k9, h9, -⟩ := Vm.findClass_spec hcl; exact ⟨k9, h9⟩) (h := x.handlerPc) (by rw [ht]; exact Or.inr ⟨hx, h0, c4, hl5, Or.inl ⟨hasg, rfl⟩⟩)
  obtain ⟨t2, a1, b1⟩ := kk (T.setVm vm') hT X'
  exact ⟨t2, st.trans a1, b1⟩
/-- the first row is passed, the second takes it -/
theorem vx_take2 {own nm nm2 E : String} {ce : Cell} {q : Addr} {pc : Nat} {ls : Array Slot} {rest : List Value} (hown : s.vm.findClass own = some m.cls) {x y : ExceptionTableEntry} {t : List ExceptionTableEntry} (ht : c.exceptionTable.toList = y :: x :: t) (hy : covers y pc = true) (hy0 : y.catchType ≠ 0) (hx : covers x pc = true) (h0 : x.catchType ≠ 0)
    (hly : (Cond.classLink own y.catchType nm2).before args s = true) (hno : va_Nc E nm2 s)
    (hl : (Cond.classLink own x.catchType nm).before args s = true) (hcast : (Cond.castable E nm).before args s = true) (hcell : H[q]? = some ce) (hv : ce.vm = .none) (hcl : s.vm.findClass E = some ce.cls)
    (kk : W p l e R s m args below meth c H locs cells slots Q (F0 m x.handlerPc ls [.ref q])) : vx_W p l e R s m args below meth c H locs cells slots Q (F0 m pc ls rest) q := by
  intro T hT X
  have hpl : e.platform.magicAccessors = ({} : Platform).magicAccessors := by rw [X.admits.platform]
  obtain ⟨c3, c4, hc3, hc4, hasg⟩ := Cond.castable_spec hcast
  cases Option.some.inj (hc3.symm.trans hcl)
  obtain ⟨c5, hc5, hl5⟩ := Cond.classLink_spec hown hl e.platform hpl
  cases Option.some.inj (hc4.symm.trans hc5)
  obtain ⟨c6, hc6, hl6⟩ := Cond.classLink_spec hown hly e.platform hpl
  obtain ⟨a8, b8, n1, n2, n3⟩ := hno
  cases Option.some.inj (n1.symm.trans hcl)
  cases Option.some.inj (n2.symm.trans hc6)
  obtain ⟨vm', X', st⟩ := caughtAt X q (g := F0 m pc ls rest) rfl (by rw [hT]; exact hcell) hv (by obtain ⟨k9, h9, -⟩ := Vm.findClass_spec hcl; exact ⟨k9, h9⟩) (h := x.handlerPc) (by rw [ht]; exact Or.inr ⟨hy, hy0, _, hl6, Or.inr ⟨n3, Or.inr ⟨hx, h0, c4, hl5, Or.inl ⟨hasg, rfl⟩⟩⟩⟩)
  obtain ⟨t2, a1, b1⟩ := kk (T.setVm vm') hT X'
  exact ⟨t2, st.trans a1, b1⟩
end CA
