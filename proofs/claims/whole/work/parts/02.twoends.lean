/-! Own rows, of no class: a method's contract with two ends (it returns, or it throws), a walk begun anew at the point where it stands, an exception made and thrown. -/
section TwoEnds
variable {p : Program} {l : Launch} {e : Env} {R : Room} {s : State} {m : MethodId} {args : Array Value} {below : List Frame} {meth : Method} {c : Code} {T : State} {locs : List Loc} {cells slots : Nat}
/-- what is left of the frame's word when the end is not named: the tables are warmer, nothing has moved but the slots L and what is new -/
def xe_End (st t : State) (L : List Loc) (k n : Nat) : Prop := st.WarmedH t.vm ∧ st.sameButNew ({ t with vm := st.vm } : State) L k n
/-- how much is new at an end: nothing at a return, the exception at a throw -/
def xk (o : Outcome) (k : Nat) : Nat := match o with
  | .returned _ => 0
  | .threw _ => k
/-- a contract whose method returns or throws -/
def MetX (l : Launch) (y : MethodName) (ws : List Cond) (rm : Room) (Pc : Array Value → State → Prop) (Qc : Array Value → State → Outcome → State → Prop) (free : Addr → Prop) : Prop :=
  MetFree l y (headSpec ws rm) Pc (fun _ _ _ _ _ => True) (fun a st o t => Qc a st o t ∧ ∃ L, xe_End st t L (xk o 1) (xk o 6) ∧ ∀ q ∈ L, free q.base)
def MQX (below : List Frame) (Qc : Array Value → State → Outcome → State → Prop) (a : Array Value) (s : State) (free : Addr → Prop) : State → Prop := fun t =>
  ∃ o, t.status = .running ∧ Ended t below o ∧ Qc a s o t ∧ ∃ L, xe_End s t L (xk o 1) (xk o 6) ∧ ∀ q ∈ L, free q.base
theorem MQX.of {Qc : Array Value → State → Outcome → State → Prop} {a : Array Value} {free : Addr → Prop} {t : State} (h : MQ below Qc a s 0 0 free t) : MQX below Qc a s free t := by
  obtain ⟨o, h1, h2, h3, L, h4, h5⟩ := h
  obtain ⟨⟨v, rfl⟩, h6⟩ := h4
  exact ⟨_, h1, h2, h3, L, h6, h5⟩
/-- a walk whose end is weakened -/
theorem W.imp {H : Heap} {Q Q' : State → Prop} {g : JFrame} (h : ∀ t, Q t → Q' t) (w : W p l e R s m args below meth c H locs cells slots Q g) : W p l e R s m args below meth c H locs cells slots Q' g := by
  intro T hT X
  obtain ⟨t, a, b⟩ := w T hT X
  exact ⟨t, a, h t b⟩
theorem MetX.ofW {y : MethodName} {ws : List Cond} {rm : Room} {Pc : Array Value → State → Prop} {Qc : Array Value → State → Outcome → State → Prop} {free : Addr → Prop} {cc : ByteArray} {maxL : Nat} {ret : Option FieldType}
    (hy : plainName y.cls = true) (his : ∀ (args : Array Value) (s : State) (m : MethodId), (headSpec ws rm).pre.before args s = true → s.methodNamed? y = some m → ∃ meth c, s.vm.method? m = some meth ∧ meth.code = some c ∧ c.code = cc ∧ c.maxLocals = maxL ∧ meth.sig.returnType = ret ∧ meth.locks = false)
    (body : ∀ p e s m args below meth c s₁, BodyLoose p l y (headSpec ws rm) cc maxL ret e s m args below meth c s₁ → c.maxLocals = maxL → Pc args s →
      W p l e (headSpec ws rm).room s m args below meth c s.heap [] 0 0 (MQX below Qc args s free) (entryFrame m args maxL)) : MetX l y ws rm Pc Qc free := by
  refine MetFree.of_bodyS (code := cc) (maxLocals := maxL) (ret := ret) hy his ?_
  intro p e s m args below meth c s₁ B hml hP _
  have hh0 : s₁.heap = s.heap := by rw [B.state]; rfl
  obtain ⟨t, a1, o, b1, b2, b3⟩ := body p e s m args below meth c s₁ B hml hP s₁ hh0 (Stand.of_body B)
  exact ⟨t, o, a1, b1, b2, b3⟩
/-- the walk begun anew where it stands: the same frames, the heap and the tables as they are now -/
theorem st_re (X : Stand p l e R s m args below meth c T locs cells slots) (kc ks : Nat) (h1 : cells + kc ≤ R.cells) (h2 : slots + ks ≤ R.slots) :
    Stand p l e { R with cells := kc, slots := ks } (T.setFrames (.invoking m args :: below)) m args below meth c T [] 0 0 := by
  obtain ⟨g₀, hfr⟩ := X.frames_eq
  have hcur : T.cur < T.threads.size := State.cur_lt_of_frames hfr
  have hF : (T.setFrames (.invoking m args :: below)).frames = .invoking m args :: below := State.frames_setFrames _ hcur
  have hmeth : (T.setFrames (.invoking m args :: below)).vm.method? m = some meth := X.method'
  refine ⟨X.admits, X.cas, X.clock, hF, ?_, ?_, hmeth, X.code, X.here, X.tail, State.WarmedH.refl T, (State.stackLimits_setFrames _ _ _).symm, (State.stackBytes_setFrames _ _).symm, ?_⟩
  · have h0 := X.room
    have hb : (T.setFrames (.invoking m args :: below)).slotsTrue = true := X.book
    have hl0 := State.localsInUse_invoking X.frames X.method X.code
    have hl1 := State.localsInUse_invoking hF hmeth X.code
    have hcells : (T.setFrames (.invoking m args :: below)).heap.size + kc ≤ e.platform.maxCells := X.cellsAbove (n := kc) h1
    have hslots : (T.setFrames (.invoking m args :: below)).slotsUsed + ks ≤ e.platform.maxSlots := X.slotsAbove (n := ks) h2
    simp only [State.hasRoom, Bool.and_eq_true, decide_eq_true_eq] at h0 ⊢
    rw [hl0, X.frames] at h0
    rw [hl1, hF, State.stackLimits_setFrames, State.stackBytes_setFrames, X.limits, X.bytes]
    exact ⟨⟨⟨h0.1.1.1, hcells⟩, hslots⟩, hb⟩
  · have h0 := X.hears
    have hal := X.warmed.alike
    revert h0
    unfold State.hears
    cases below with
    | nil => intro h0; show (T.vm.method? m).any _ = true; rw [hal.method?]; exact h0
    | cons f r =>
      cases f with
      | java g =>
        intro h0
        have h0 : ((s.code? g.method).bind fun c => (decode c.code g.pc).toOption).isSome = true := h0
        have h1 : (T.setFrames (.invoking m args :: .java g :: r)).code? g.method = s.code? g.method := by
          rw [State.code?_eq, State.code?_eq]
          show (T.vm.method? g.method).bind _ = _
          rw [hal.method?]
        show (((T.setFrames (.invoking m args :: .java g :: r)).code? g.method).bind fun c => (decode c.code g.pc).toOption).isSome = true
        rw [h1]; exact h0
      | native _ => intro _; rfl
      | proc _ => intro _; rfl
      | _ => intro h0; show (T.vm.method? m).any _ = true; rw [hal.method?]; exact h0
  · obtain ⟨t, ht, -⟩ := State.frames_cons hfr
    have hdrop : T.heap.toList.drop T.heap.size = [] := List.drop_eq_nil_of_le (by simp)
    refine ⟨?_, Nat.le_refl _, Nat.le_refl _, ?_, ?_, fun a c h => ⟨c, h, rfl, rfl, fun _ _ => rfl⟩⟩
    · show T = { (T.setFrames (.invoking m args :: below)).setFrames T.frames with heap := T.heap, slotsUsed := T.slotsUsed }
      rw [State.setFrames_setFrames, State.setFrames_self ht]
    · show T.slotsUsed = T.slotsUsed + ((T.heap.toList.drop T.heap.size).map (·.slots.size)).sum
      rw [hdrop]; rfl
    · show ((T.heap.toList.drop T.heap.size).map (·.slots.size)).sum ≤ 0
      rw [hdrop]; exact Nat.le_refl _
/-- what a walk begun anew left unmoved, said of the first walk -/
theorem st_back (X : Stand p l e R s m args below meth c T locs cells slots) {fs : List Frame} {U : State} {k n : Nat} (h : (T.setFrames fs).sameButNew ({ U with vm := (T.setFrames fs).vm } : State) [] k n) :
    s.sameButNew ({ U with vm := s.vm } : State) locs (cells + k) (slots + n) := by
  have h' : T.sameButNew ({ U with vm := T.vm } : State) [] k n := by
    obtain ⟨h1, h2, h3, h4, h5, h6⟩ := h
    refine ⟨?_, h2, h3, h4, h5, h6⟩
    rw [State.setFrames_setFrames] at h1
    exact h1
  have h2 := X.same.trans (h'.setVm s.vm)
  rw [List.append_nil] at h2
  exact h2
end TwoEnds
