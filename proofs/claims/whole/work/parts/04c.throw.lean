/-! Own rows: 'throw new X("text")' in a method without handlers, whatever the method wrote before. -/
section Throw2
variable {p : Program} {l : Launch} {e : Env} {R : Room} {s : State} {m : MethodId} {args : Array Value} {below : List Frame} {meth : Method} {c : Code} {H : Heap} {locs : List Loc}
/-- the words that 'throw new cls(text)' needs at a state -/
def xt_Ok (own cls tx : String) (names : List String) (ix is ic : Nat) (a : Array Value) (U : State) : Prop :=
  (Cond.classLink own ix cls).before a U = true ∧ (Cond.instantiable cls 6).before a U = true ∧ (Cond.initialized cls).before a U = true ∧ ((∀ w ∈ Bundle.ownAtoms own ic cls names, w.before a U = true) ∨ ∃ (nxt : String) (rest : List String) (i0 : Nat) (by0 : ByteArray), names = nxt :: rest ∧ (decode by0 0 = .ok (.aload_n 0, 1) ∧ decode by0 1 = .ok (.aload_n 1, 1) ∧ decode by0 2 = .ok (.invokespecial i0, 3) ∧ decode by0 5 = .ok (.return_, 1)) ∧ ∀ w ∈ xt_atoms own ic cls nxt rest i0 by0, w.before a U = true) ∧ ∃ q : Nat, vk_R own is tx q U
theorem xt_throw {cc : ByteArray} {own cls tx : String} {names : List String} {ix is ic pc n2 : Nat} {ls : Array Slot} {Qc : Array Value → State → Outcome → State → Prop} {free : Addr → Prop}
    (hx : p.tables.exec = Jvm.exec) (hb : c.code = cc) (hsz : ls.size = c.maxLocals) (hown : s.vm.findClass own = some m.cls) (htr : l.stackTraces = false) (hlk : meth.locks = false) (hexc : c.exceptionTable.isEmpty = true) (hcls : Bundle.fit cls = true) (hnames : ∀ n ∈ names, Bundle.fit n = true)
    (hw : ∀ U : State, U.heap = H → s.WarmedH U.vm → xt_Ok own cls tx names ix is ic args U)
    (hR : names.length + 3 < R.frames ∧ 1 + (13 * (names.length + 1) + 42) ≤ R.locals) (hC : 0 + 1 ≤ R.cells) (hS : 0 + 6 ≤ R.slots) (hfree : ∀ q ∈ locs, free q.base)
    (d0 : decode cc pc = .ok (.new ix, 3)) (d1 : decode cc (pc + 3) = .ok (.dup, 1)) (d2 : (decode cc (pc + 3 + 1) = .ok (.ldc is, 2) ∧ n2 = 2) ∨ (decode cc (pc + 3 + 1) = .ok (.ldc_w is, 3) ∧ n2 = 3)) (d3 : decode cc (pc + 3 + 1 + n2) = .ok (.invokespecial ic, 3)) (d4 : decode cc (pc + 3 + 1 + n2 + 3) = .ok (.athrow, 1))
    (hQ : ∀ (U : State) (ce : Cell), s.WarmedH U.vm → H.size ≤ U.heap.size → (∀ q : Nat, q < H.size → U.heap[q]? = H[q]?) → U.heap[H.size]? = some ce → ce.vm = .none → (∃ v : Vm, s.WarmedH v ∧ v.findClass cls = some ce.cls) → Qc args s (.threw H.size) U) :
    W p l e R s m args below meth c H locs 0 0 (MQX below Qc args s free) (F0 m pc ls []) := by
  intro T hT X
  subst hT
  have X' := st_re X 1 6 hC hS
  have hvm : s.WarmedH (T.setFrames (.invoking m args :: below)).vm := X.warmed
  obtain ⟨w1, w2, w3, w4, q, w5⟩ := hw (T.setFrames (.invoking m args :: below)) rfl hvm
  have hown' : (T.setFrames (.invoking m args :: below)).vm.findClass own = some m.cls := by
    show T.vm.findClass own = _
    rw [X.warmed.alike.findClass]; exact hown
  have key : W p l e { R with cells := 1, slots := 6 } (T.setFrames (.invoking m args :: below)) m args below meth c T.heap [] 0 0
      (fun U => ∃ (ce : Cell), U.status = .running ∧ Ended U below (.threw T.heap.size) ∧ (T.setFrames (.invoking m args :: below)).WarmedH U.vm ∧ (T.setFrames (.invoking m args :: below)).sameButNew ({ U with vm := (T.setFrames (.invoking m args :: below)).vm } : State) [] 1 6 ∧ U.heap[T.heap.size]? = some ce ∧ ce.vm = .none ∧ T.vm.findClass cls = some ce.cls) (F0 m pc ls []) := by
    refine W.newc hx hb hown' w1 w2 w3 rfl d0 (Nat.le_refl _) (Nat.le_refl _) (fun cC kC hf hk hord hsz6 => ?_)
    refine lv_dup (rest := []) hx hb d1 rfl ?_
    have key2 : W p l e { R with cells := 1, slots := 6 } (T.setFrames (.invoking m args :: below)) m args below meth c (T.heap.push { cls := cC, slots := kC.instanceTypes.map defaultValue, vm := .none }) [] (0 + 1) (0 + 6)
        (fun U => ∃ (ce : Cell), U.status = .running ∧ Ended U below (.threw T.heap.size) ∧ (T.setFrames (.invoking m args :: below)).WarmedH U.vm ∧ (T.setFrames (.invoking m args :: below)).sameButNew ({ U with vm := (T.setFrames (.invoking m args :: below)).vm } : State) [] 1 6 ∧ U.heap[T.heap.size]? = some ce ∧ ce.vm = .none ∧ T.vm.findClass cls = some ce.cls) (F0 m (pc + 3 + 1 + n2) ls [.ref q, .ref T.heap.size, .ref T.heap.size]) := by
      intro T2 hT2 X2
      subst hb
      have hce0 : T2.heap[T.heap.size]? = some (freshCell cC kC) := by rw [hT2]; simp
      have hout : ∀ x ∈ c.exceptionTable.toList, covers x (pc + 3 + 1 + n2 + 3) = false := fun x hx => by rw [Array.isEmpty_iff.mp hexc] at hx; cases hx
      rcases w4 with w4 | ⟨nxt, nrest, i0, by0, rfl, hdec, w4⟩
      · obtain ⟨U, st, hrun, hend, hW, hsame, ce, hce, hoc⟩ := X2.ctorThrowS hx (by rw [X.admits.platform]; exact htr) (own := own) (cls := cls) (names := names) (ic := ic) hown' hcls hnames w4 (fun x h => by cases h) (a := T.heap.size) hf hk
          hce0 (Nat.le_refl _) (msg := .ref q) rfl (g := F0 m (pc + 3 + 1 + n2) ls [.ref q, .ref T.heap.size, .ref T.heap.size]) rfl hsz rfl rfl (rest := []) rfl d3 d4 hout hR.1 (by simpa [JFrame.monitorRoom, Value.category] using hR.2) hlk
        exact ⟨U, st, ce, hrun, hend, hW, hsame, hce, hoc.vm, hoc.cls⟩
      · obtain ⟨U, st, hrun, hend, hW, hsame, ce, hce, hvm, hcl⟩ := xt_ctor X2 hx (by rw [X.admits.platform]; exact htr) (own := own) (cls := cls) (nxt := nxt) (names := nrest) (ic := ic) (i0 := i0) (by0 := by0) hown' hcls (hnames nxt List.mem_cons_self) (fun n hn => hnames n (List.mem_cons_of_mem _ hn)) hdec w4 (a := T.heap.size) hf hk
          hce0 (Nat.le_refl _) (msg := .ref q) rfl (g := F0 m (pc + 3 + 1 + n2) ls [.ref q, .ref T.heap.size, .ref T.heap.size]) rfl hsz rfl rfl rfl d3 d4 hout (by have h9 := hR.1; simp only [List.length_cons] at h9; omega) (by have h9 := hR.2; simp only [List.length_cons] at h9; show 2 * 0 + 1 + (13 * (nrest.length + 2) + 42) ≤ R.locals; omega) hlk
        exact ⟨U, st, ce, hrun, hend, hW, hsame, hce, hvm, hcl⟩
    rcases d2 with ⟨d2, rfl⟩ | ⟨d2, rfl⟩
    · exact va_ldcS hx hb hown' w5 d2 key2
    · exact xt_ldcw hx hb hown' w5 d2 key2
  obtain ⟨U, st, ce, hrun, hend, hW, hsame, hce, hnone, hcl⟩ := key T rfl X'
  have hW2 : s.WarmedH U.vm := State.WarmedH.trans X.warmed hW
  refine ⟨U, st, .threw T.heap.size, hrun, hend, ?_, locs, ⟨hW2, by have h9 := st_back X hsame; rw [Nat.zero_add, Nat.zero_add] at h9; exact h9⟩, hfree⟩
  exact hQ U ce hW2 hsame.2.1 (fun q hq => xt_old hsame hq) hce hnone ⟨T.vm, X.warmed, hcl⟩
end Throw2
