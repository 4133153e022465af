/-! Own rows: an exception that is caught by a clause of the method's own table, the clauses' classes resolved or not; methods with such clauses. -/
section Catch
/-- one clause of the table: it covers the place, it links to a class; the exception's class can be assigned to it (then its handler takes it), or it can't (then the search goes on) -/
def xk_Hit (pl : Platform) (s : State) (d : ClassId) (pc : Nat) (thrown : ClassId) (h : Nat) : List ExceptionTableEntry → Prop
  | [] => False
  | x :: t => covers x pc = true ∧ x.catchType ≠ 0 ∧ ∃ c, s.vm.ClassLinks pl d x.catchType c ∧ ((s.vm.assignable thrown c = true ∧ x.handlerPc = h) ∨ (s.vm.assignable thrown c = false ∧ xk_Hit pl s d pc thrown h t))
theorem xk_one {e : Env} {f : JFrame} {a : Addr} {cell : Cell} {S : State} {x : ExceptionTableEntry} {t : List ExceptionTableEntry} {c : ClassId} (hobj : ∀ k, cell.vm ≠ .statics k) (hcell : S.heap[a]? = some cell) (hx : covers x f.pc = true) (h0 : x.catchType ≠ 0) (hl : S.vm.ClassLinks e.platform f.method.cls x.catchType c)
    (h1 : ∃ k, S.vm.classes[cell.cls]? = some k) (h2 : ∃ k, S.vm.classes[c]? = some k) (Q : Handler → Pre) (E : CtlPost) (d : Bool) (acts : List Action) :
    wp (findHandler.go f a (x :: t)) Q E e d acts S ↔ if S.vm.assignable cell.cls c = true then Q (.found x.handlerPc) d acts (S.setVm (S.vm.noted f.method.cls x.catchType (.cls c))) else wp (findHandler.go f a t) Q E e d acts (S.setVm (S.vm.noted f.method.cls x.catchType (.cls c))) := by
  have hal : S.vm.Alike (S.vm.noted f.method.cls x.catchType (.cls c)) := (Vm.Alike.refl S.vm).noted _ _ _
  obtain ⟨g1, g2⟩ := (resolveClass_links e.toSetting hl).op (op := VmOp.resolveClass f.method.cls x.catchType) rfl
  obtain ⟨k1, q1⟩ := h1
  obtain ⟨k2, q2⟩ := h2
  obtain ⟨k1', q1', -⟩ := hal.2.2 _ _ q1
  obtain ⟨k2', q2', -⟩ := hal.2.2 _ _ q2
  have hasg := hal.assignable cell.cls c
  simp only [covers] at hx
  cases hfit : S.vm.assignable cell.cls c
  · have hf' : (S.vm.noted f.method.cls x.catchType (.cls c)).assignable cell.cls c = false := by rw [hasg]; exact hfit
    simp [findHandler.go, hx, h0, g1, g2, hcell, hobj, q1', q2', hf', VmOp.dirties, VmOp.acts]
  · have hf' : (S.vm.noted f.method.cls x.catchType (.cls c)).assignable cell.cls c = true := by rw [hasg]; exact hfit
    simp [findHandler.go, hx, h0, g1, g2, hcell, hobj, q1', q2', hf', VmOp.dirties, VmOp.acts]
theorem xk_search {e : Env} {s : State} {f : JFrame} {a : Addr} {cell : Cell} {h : Nat} (hobj : ∀ k, cell.vm ≠ .statics k) (hk : ∃ k, s.vm.classes[cell.cls]? = some k) :
    ∀ (es : List ExceptionTableEntry) (S : State), s.WarmedH S.vm → S.heap[a]? = some cell → xk_Hit e.platform s f.method.cls f.pc cell.cls h es →
      ∃ vm', s.WarmedH vm' ∧ ∀ (Q : Handler → Pre) (E : CtlPost) (d : Bool) (acts : List Action), wp (findHandler.go f a es) Q E e d acts S ↔ Q (.found h) d acts (S.setVm vm') := by
  intro es
  induction es with
  | nil => intro S _ _ hh; exact hh.elim
  | cons x t ih =>
    intro S hW hcell hh
    obtain ⟨hx, h0, c, hl, hor⟩ := hh
    obtain ⟨dk, _, _, kt, hd, _, _, _, _, hkt, _, hop⟩ := hl.here
    obtain ⟨k0, hk0⟩ := hk
    obtain ⟨k0', hk0', -⟩ := hW.alike.2.2 _ _ hk0
    obtain ⟨kt', hkt', -⟩ := hW.alike.2.2 _ _ hkt
    have hW2 : s.WarmedH (S.vm.noted f.method.cls x.catchType (.cls c)) := hW.noted hd hop (State.rightAt_cls hl)
    have one := fun Q E d acts => xk_one (e := e) (f := f) (t := t) hobj hcell hx h0 (hW.classLinks hl) ⟨k0', hk0'⟩ ⟨kt', hkt'⟩ Q E d acts
    have hasg := hW.alike.assignable cell.cls c
    rcases hor with ⟨hfit, rfl⟩ | ⟨hno, hrest⟩
    · exact ⟨_, hW2, fun Q E d acts => by rw [one Q E d acts, if_pos (by rw [hasg]; exact hfit)]⟩
    · obtain ⟨vm', hW', hq⟩ := ih (S.setVm (S.vm.noted f.method.cls x.catchType (.cls c))) hW2 hcell hrest
      exact ⟨vm', hW', fun Q E d acts => by rw [one Q E d acts, if_neg (by rw [hasg, hno]; decide)]; exact hq Q E d acts⟩
theorem xk_caught {p : Program} {l : Launch} {e : Env} {R : Room} {s : State} {m : MethodId} {args : Array Value} {below : List Frame} {meth : Method} {c : Code} {T : State} {locs : List Loc} {cells slots : Nat} (X : Stand p l e R s m args below meth c T locs cells slots)
    (a : Addr) {g : JFrame} (hg : g.method = m) {cell : Cell} (hcell : T.heap[a]? = some cell) (hvm : cell.vm = .none) (hk : ∃ k, s.vm.classes[cell.cls]? = some k) {h : Nat} (hh : xk_Hit e.platform s m.cls g.pc cell.cls h c.exceptionTable.toList) :
    ∃ vm', Stand p l e R s m args below meth c (T.setVm vm') locs cells slots ∧ ∀ tg, Steps p.tables e below ((T.setVm vm').setTop { g with pc := h, stack := [.ref a] }) tg → Steps p.tables e below ((T.setTop g).pushFrame (.throwing a)) tg := by
  subst hg
  obtain ⟨vm', hW', hq⟩ := xk_search (e := e) (s := s) (f := g) (a := a) (cell := cell) (h := h) (fun k hk => by rw [hvm] at hk; cases hk) hk c.exceptionTable.toList ((T.setTop g).pushFrame (.throwing a)) X.warmed hcell hh
  refine ⟨vm', X.noted hW', fun tg hrest => ?_⟩
  have hAt := X.here
  obtain ⟨hgo, hw⟩ := hAt.throwing a
  refine Steps.head hgo hw ?_
  have hstep : (stepThrowing e ((T.setTop g).pushFrame (.throwing a)) a (.java g :: T.frames.tail)).Is ((((T.setTop g).pushFrame (.throwing a)).setVm vm').setFrames (.java { g with pc := h, stack := [.ref a] } :: T.frames.tail)) [] := by
    simp only [stepThrowing, searchFrame, vmDo]
    generalize hr : Sem.go _ e false [] ((T.setTop g).pushFrame (.throwing a)) = res
    have hm : ((T.setTop g).pushFrame (.throwing a)).vm.method? g.method = some meth := X.method'
    obtain ⟨as, rfl, ha⟩ := Sem.eq_ok_of hr (a := Handler.found h) (s' := ((T.setTop g).pushFrame (.throwing a)).setVm vm') (acts' := []) (by simp [W.findHandler_eq hm X.code, hq _ _ _ _])
    exact ⟨rfl, ha⟩
  rw [stepThread_throwing (frames_entered hAt.top _), hstep.1]
  obtain ⟨g₀, hfr⟩ := X.frames_eq
  have hr' : (T.setVm vm').frames = .java g₀ :: below := hfr
  rw [State.setTop_of_frames _ hr'] at hrest
  have e1 : (((T.setTop g).pushFrame (.throwing a)).setVm vm').setFrames (.java { g with pc := h, stack := [.ref a] } :: T.frames.tail) = (T.setVm vm').setFrames (.java { g with pc := h, stack := [.ref a] } :: below) := by
    rw [State.pushFrame, State.setTop_of_frames _ hfr, hfr]
    show (((T.setVm vm').setFrames _).setFrames _).setFrames _ = _
    rw [State.setFrames_setFrames, State.setFrames_setFrames]
    rfl
  rw [e1]
  exact hrest
end Catch
