/-! Own rows: the constructor X(String) of an exception whose link to its superclass's constructor stands at any place of its constant pool (NoSuchElementException: 13); then athrow. Begun in a walk that has written nothing. -/
section Ctor
variable {p : Program} {l : Launch} {e : Env} {R : Room} {s : State} {m : MethodId} {args : Array Value} {below : List Frame} {meth : Method} {c : Code} {T : State} {cells slots : Nat}
def xt_atoms (own : String) (ic : Nat) (cls nxt : String) (names : List String) (i0 : Nat) (by0 : ByteArray) : List Cond :=
  (Bundle.throwableAtoms ++ Bundle.throwableSAtoms) ++ (Bundle.passSAtoms cls nxt i0 by0 ++ Bundle.chainSAtoms nxt names) ++
  [.methodLink own ic (Bundle.initS cls), .instantiable cls 6, .selects cls Bundle.tFill0 Bundle.tFill0, .selects cls Bundle.tFill Bundle.tFill,
   .lays cls Bundle.tN "cause" "Ljava/lang/Throwable;", .lays cls Bundle.tN "stackTrace" Bundle.steD, .lays cls Bundle.tN "suppressedExceptions" Bundle.listD, .lays cls Bundle.tN "detailMessage" "Ljava/lang/String;",
   .isRef (.static Bundle.tN "UNASSIGNED_STACK" Bundle.steD), .isRef (.static Bundle.tN "SUPPRESSED_SENTINEL" Bundle.listD),
   .fieldLink Bundle.tN 198 Bundle.tN "backtrace" "Ljava/lang/Object;", .lays Bundle.tN Bundle.tN "backtrace" "Ljava/lang/Object;", .lays cls Bundle.tN "backtrace" "Ljava/lang/Object;"]
set_option maxHeartbeats 2000000 in
theorem xt_ctor (X : Stand p l e R s m args below meth c T [] cells slots) (hexec : p.tables.exec = Jvm.exec) (htr : e.platform.stackTraces = false) {own cls nxt : String} {names : List String} {ic i0 : Nat} {by0 : ByteArray}
    (hown : s.vm.findClass own = some m.cls) (hcls : Bundle.fit cls = true) (hnxt : Bundle.fit nxt = true) (hnames : ∀ n ∈ names, Bundle.fit n = true)
    (hd : decode by0 0 = .ok (.aload_n 0, 1) ∧ decode by0 1 = .ok (.aload_n 1, 1) ∧ decode by0 2 = .ok (.invokespecial i0, 3) ∧ decode by0 5 = .ok (.return_, 1))
    (h : ∀ w ∈ xt_atoms own ic cls nxt names i0 by0, w.before args s = true)
    {a : Addr} {cX : ClassId} {kX : Class} (hfX : s.vm.findClass cls = some cX) (hkX : s.vm.classes[cX]? = some kX) (hcell : T.heap[a]? = some (freshCell cX kX)) (hnew : s.heap.size ≤ a)
    {msg : Value} (hmsg : msg.isRef = true) {g : JFrame} (hg : g.method = m) (hsize : g.locals.size = c.maxLocals) (hlocked : g.locked = none) (hentered : g.entered = []) (hstack : g.stack = [msg, .ref a, .ref a])
    (hd6 : decode c.code g.pc = .ok (.invokespecial ic, 3)) (hd9 : decode c.code (g.pc + 3) = .ok (.athrow, 1)) (hout : ∀ x ∈ c.exceptionTable.toList, covers x (g.pc + 3) = false)
    (hRf : names.length + 4 < R.frames) (hRl : 2 * g.monitorRoom + 1 + (13 * (names.length + 2) + 42) ≤ R.locals) (hlk : meth.locks = false) :
    ∃ U : State, Steps p.tables e below (T.setTop g) U ∧ U.status = .running ∧ Ended U below (.threw a) ∧ s.WarmedH U.vm ∧ s.sameButNew ({ U with vm := s.vm } : State) [] cells slots ∧
      ∃ ce, U.heap[a]? = some ce ∧ ce.vm = .none ∧ s.vm.findClass cls = some ce.cls := by
  have hpl : e.platform.magicAccessors = ({} : Platform).magicAccessors := by rw [X.admits.platform]
  have A : ∀ w, w ∈ xt_atoms own ic cls nxt names i0 by0 → w.holds args s none s [] = true := fun w hw => h w hw
  have hTa : ∀ w ∈ Bundle.throwableAtoms, w.before args s = true := fun w hw => h w (by simp [xt_atoms, hw])
  have hTs : ∀ w ∈ Bundle.throwableSAtoms, w.before args s = true := fun w hw => h w (by simp [xt_atoms, hw])
  obtain ⟨K, Z0, L, -, Y⟩ := ThrowableC.of_atoms (args := args) (by rw [X.admits.platform]) (by rw [X.admits.platform]) hpl hTa
  obtain ⟨Z, M, LZ, LM, hnZ⟩ := Init0T.ofS_atoms (args := args) hpl L Y hTs
  -- the chain: the first link by itself, the others as the library has them
  obtain ⟨P1, L1, hP1, hsup⟩ := PassC.ofS_atoms (args := args) (s := s) hpl (X := cls) (Y := nxt) (index := i0) (bytes := by0) (Bundle.fit_spec hcls).1 (Bundle.fit_spec hnxt).2 hd.1 hd.2.1 hd.2.2.1 hd.2.2.2 (fun w hw => h w (by simp [xt_atoms, hw]))
  obtain ⟨P2, Ps, hlen, L2, hLs, hP2, hl2, hls⟩ := Bundle.chainS (args := args) hpl hnZ names nxt hnxt hnames (fun w hw => h w (by simp [xt_atoms, hw]))
  have hfP : s.vm.findClass cls = some P1.m.cls := findClass_of_methodNamed hP1
  cases Option.some.inj (hfX.symm.trans hfP)
  obtain ⟨c1, k1, hc1, hk1, hord, -, -, hn6⟩ := Cond.instantiable_spec (A (.instantiable cls 6) (by simp [xt_atoms]))
  cases Option.some.inj (hc1.symm.trans hfP)
  cases Option.some.inj (hkX.symm.trans hk1)
  have sel : ∀ (x : MethodName) (mx : MethodId), s.methodNamed? x = some mx → (x.cls ≠ "java/lang/invoke/MethodHandle" ∧ x.cls ≠ "java/lang/invoke/VarHandle") → (Cond.selects cls x x).holds args s none s [] = true → selectMethod e.platform s.vm P1.m.cls mx = .method mx := by
    intro x mx hn hx hs
    obtain ⟨c2, r2, m2, q1, q2, q3, q4, -⟩ := Cond.selects_spec hs
    cases Option.some.inj (q1.symm.trans hfP)
    cases Option.some.inj (q2.symm.trans (State.methodFound?_of_named hn hx))
    cases Option.some.inj (q3.symm.trans hn)
    rw [Launch.admits_selectMethod X.admits]
    exact q4
  have hs0 := sel _ _ Y.fill0 (by decide) (A (.selects cls Bundle.tFill0 Bundle.tFill0) (by simp [xt_atoms]))
  have hsF := sel _ _ Y.fill (by decide) (A (.selects cls Bundle.tFill Bundle.tFill) (by simp [xt_atoms]))
  obtain ⟨cS0, hcS0, hiss⟩ := Y.statics
  obtain ⟨u0, hu0⟩ := Cond.staticRefV Y.unassigned L.unassignedStatic L.statics hcS0 hiss (A (.isRef (.static Bundle.tN "UNASSIGNED_STACK" Bundle.steD)) (by simp [xt_atoms]))
  obtain ⟨sen, hsen⟩ := Cond.staticRefV Y.sentinel L.sentinelStatic L.statics hcS0 hiss (A (.isRef (.static Bundle.tN "SUPPRESSED_SENTINEL" Bundle.listD)) (by simp [xt_atoms]))
  have hcS : T.heap[K.aS]? = some cS0 := by
    rw [← hcS0]
    exact xt_old (s := s) (t := T.setVm s.vm) X.same (Array.getElem?_eq_some_iff.mp hcS0).1
  have hkn : cS0.vm ≠ .unknown := by
    intro hu
    rw [hu] at hiss
    cases hiss
  have hne : K.aS ≠ a := Nat.ne_of_lt (Nat.lt_of_lt_of_le (Array.getElem?_eq_some_iff.mp hcS0).1 hnew)
  obtain ⟨iM, hffM⟩ := Y.msg
  obtain ⟨ci, ii, fB, hk198, hg198, ha198, hsB, -, hnB, htB, hffB⟩ := Cond.ownField (t := .object "java/lang/Object") Y.found L.cls (by decide +kernel) (A (.fieldLink Bundle.tN 198 Bundle.tN "backtrace" "Ljava/lang/Object;") (by simp [xt_atoms])) (A (.lays Bundle.tN Bundle.tN "backtrace" "Ljava/lang/Object;") (by simp [xt_atoms])) e.platform hpl
  obtain ⟨tyC, dC, hdC, hdnC⟩ := Cond.laysAt hfP hk1 Y.cause (A (.lays cls Bundle.tN "cause" "Ljava/lang/Throwable;") (by simp [xt_atoms]))
  obtain ⟨tyS, dS, hdS, hdnS⟩ := Cond.laysAt hfP hk1 Y.stack (A (.lays cls Bundle.tN "stackTrace" Bundle.steD) (by simp [xt_atoms]))
  obtain ⟨tyP, dP, hdP, hdnP⟩ := Cond.laysAt hfP hk1 Y.supp (A (.lays cls Bundle.tN "suppressedExceptions" Bundle.listD) (by simp [xt_atoms]))
  obtain ⟨tyM, dM, hdM, hdnM⟩ := Cond.laysAt hfP hk1 hffM (A (.lays cls Bundle.tN "detailMessage" "Ljava/lang/String;") (by simp [xt_atoms]))
  obtain ⟨tyB, dB, hdB, hdnB⟩ := Cond.laysAt hfP hk1 hffB (A (.lays cls Bundle.tN "backtrace" "Ljava/lang/Object;") (by simp [xt_atoms]))
  have bC := Cond.laysApart hdB hdC hdnB hdnC (by rw [hnB, Y.causeName]; decide)
  have bS := Cond.laysApart hdB hdS hdnB hdnS (by rw [hnB, Y.stackName]; decide)
  have bP := Cond.laysApart hdB hdP hdnB hdnP (by rw [hnB, Y.suppName]; decide)
  have hskip : SkipFacts K e.platform s (fun u => u) u0 ((preparedCellV K.toThrowableT (freshCell P1.m.cls kX) a u0 sen).withEntry T.cur) :=
    ⟨{ ci198 := ci, i198 := ii, fBack := fB }, ⟨hk198, hg198, ha198, hsB⟩, by
      have h9 := fresh_default (c := P1.m.cls) tyB
      rw [htB] at h9
      simpa [preparedCellV, Cell.setSlot, Cell.withEntry, Array.getElem?_setIfInBounds, bC, bS, bP, bC.symm, bS.symm, bP.symm, defaultValue] using h9, fun _ _ => rfl⟩
  obtain ⟨tm, methC, cdC, kC, vm₁, hnC, -, -, -, -, -, -, -, hW₁, st1⟩ := Steps.initColdS (tb := p.tables) (e := e) (below := below) (s := s) (U := T) X.here hexec X.warmed hpl hown (t := Bundle.initS cls) rfl rfl (Bundle.fit_spec hcls).2
    (A (.methodLink own ic (Bundle.initS cls)) (by simp [xt_atoms])) (h (.instanceMethod (Bundle.initS cls)) (by simp [xt_atoms, Bundle.passSAtoms])) (bytes := by0) (maxL := 2) (h (.code (Bundle.initS cls) by0 2 none) (by simp [xt_atoms, Bundle.passSAtoms]))
    (f := g) hg (a := a) (msg := msg) (rest := [.ref a]) hstack hd6
  cases Option.some.inj (hnC.symm.trans hP1)
  have X₁ := X.noted hW₁
  have hsup2 : P1.sup = P2.m := Option.some.inj (hsup.symm.trans hP2)
  obtain ⟨vm₂, X₂, st2⟩ := X₁.ctorMessageOffV hexec (g := { g with stack := [.ref a] }) hg hsize K L Z LZ M LM (P1 :: P2 :: Ps)
    (fun P hP => by
      rcases List.mem_cons.mp hP with rfl | hP
      · exact L1
      · rcases List.mem_cons.mp hP with rfl | hP
        · exact L2
        · exact hLs P hP)
    ⟨hsup2, hl2, hls⟩ (u0 := u0) (sen := sen) (self := a) hmsg (cell := freshCell P1.m.cls kX) (cellS := cS0)
    hcell (fun _ => by simp) (by simp) rfl rfl hs0 hsF hcS hne hkn hu0 hsen
    (Takes.of_laid hk1 hord tyC (by rw [Y.causeType]; rfl)) (Takes.of_laid hk1 hord tyS (by rw [Y.stackType]; exact fits_refV_array _ u0)) (Takes.of_laid hk1 hord tyP (by rw [Y.suppType]; exact fits_refV_object _ sen))
    (Takes.of_laid hk1 hord tyM (by rw [Y.msgType]; exact fits_refV_object _ ⟨msg, hmsg⟩)) Y.objLocals hskip htr [] hd6
    (by simp only [List.length_cons, hlen]; omega) (by simp only [List.length_cons, hlen, List.map_cons, List.map_nil, List.sum_cons, List.sum_nil, Value.category]; have h8 : (({ g with stack := [.ref a] } : JFrame)).monitorRoom = g.monitorRoom := rfl; rw [h8]; omega)
  obtain ⟨hwalk, hrun, hended, hWU, hsame⟩ := X₂.athrowLeaves hexec (g := { g with stack := [.ref a], pc := g.pc + 3 }) hg hlocked hentered hout (a := a) (rest := []) rfl hd9 hlk
  have ha : a < T.heap.size := (Array.getElem?_eq_some_iff.mp hcell).1
  refine ⟨_, st1 _ (fun acts => ?_), hrun, hended, hWU, hsame.weaken (fun y hy hlt' => ?_) (Nat.le_refl _) (Nat.le_refl _), plainBareV K.toThrowableT (freshCell P1.m.cls kX) a u0 sen msg, ?_, rfl, hfP⟩
  · rw [doInvoke_state]
    exact st2 _ hwalk
  · exfalso
    have hb : y.base = a := by
      rw [List.nil_append] at hy
      simp only [List.mem_cons, List.not_mem_nil, or_false] at hy
      rcases hy with rfl | rfl | rfl | rfl | rfl <;> rfl
    rw [hb] at hlt'
    exact Nat.not_lt.mpr hnew hlt'
  · show (((T.setVm vm₁).setVm vm₂).setCell a _).heap[a]? = _
    simp [State.setCell, ha]
end Ctor
