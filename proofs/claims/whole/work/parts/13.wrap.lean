/-! Rows over the world: the law's methods with catch clauses. -/
abbrev Clause : Type := Nat × Nat × Nat × Nat × Nat
/-- a clause's four numbers: from, to, handler, place of its class in the pool; the fifth is the exception's number -/
def cl4 (q : Clause) : Nat × Nat × Nat × Nat := (q.1, q.2.1, q.2.2.1, q.2.2.2.1)
def nHit (pc k : Nat) : List Clause → Option Nat
  | [] => none
  | q :: t => if q.1 ≤ pc ∧ pc < q.2.1 ∧ q.2.2.2.1 ≠ 0 then (if q.2.2.2.2 = k then some q.2.2.1 else nHit pc k t) else none
abbrev EnH (p : Program) (l : Launch) (s : State) (m : MethodId) (meth : Method) (c : Code) (args : Array Value) (cc : ByteArray) (nL : Nat) (own : String) (ret : Option FieldType) (cl : List Clause) (G : GG) : Prop :=
  p.tables.exec = Jvm.exec ∧ c.code = cc ∧ c.maxLocals = nL ∧ s.vm.findClass own = some m.cls ∧ meth.sig.returnType = ret ∧ meth.locks = false ∧ c.exceptionTable.toList.map (fun h => (h.startPc, h.endPc, h.handlerPc, h.catchType)) = cl.map cl4 ∧ KK l G s ∧ ∀ q ∈ cl, q.2.2.2.2 < 4 ∧ (Cond.classLink own q.2.2.2.1 (xcn q.2.2.2.2)).before args s = true
def CtiW (l : Launch) (y : MethodName) (cc : ByteArray) (nL : Nat) (ret : Option FieldType) (cl : List Clause) (rm : Room) (G : GG) (As : List Value) (z : St) (Q : Int32 → St → Prop) : Prop := Met l y [Cond.codeWith y cc nL ret (cl.map cl4)] rm (va_Pc As (IW l G z)) (QiR Q G) 1 6 (fr G)
section Wrap
variable {p : Program} {l : Launch} {e : Env} {R : Room} {s : State} {m : MethodId} {args : Array Value} {below : List Frame} {meth : Method} {c : Code} {H : Heap} {locs : List Loc} {cells slots : Nat} {Qg : State → Prop} {G : GG} {z : St} {cc cc' : ByteArray} {pc nL nL' n index : Nat} {ls : Array Slot} {rest As st0 : List Value} {own C : String} {ret ret' : Option FieldType} {y : MethodName} {rm : Room} {b : Nat} {cl : List Clause}
theorem nhit_ok {pl : Platform} {d thrown : ClassId} {k h : Nat} (hpl : pl.magicAccessors = ({} : Platform).magicAccessors) (hE : KK l G s) (hown : s.vm.findClass own = some d) (hk4 : k < 4) (hth : s.vm.findClass (xcn k) = some thrown) (hself : (Cond.castable (xcn k) (xcn k)).before args s = true) :
    ∀ (cl : List Clause) (es : List ExceptionTableEntry), (∀ q ∈ cl, q.2.2.2.2 < 4 ∧ (Cond.classLink own q.2.2.2.1 (xcn q.2.2.2.2)).before args s = true) → es.map (fun h => (h.startPc, h.endPc, h.handlerPc, h.catchType)) = cl.map cl4 → nHit pc k cl = some h → xk_Hit pl s d pc thrown h es := by
  intro cl
  induction cl with
  | nil => intro es _ _ hn; cases hn
  | cons q t ih =>
    intro es hq hes hn
    cases es with
    | nil => cases hes
    | cons x es =>
      simp only [List.map_cons, List.cons.injEq] at hes
      obtain ⟨hx, hes⟩ := hes
      have hx1 : x.startPc = q.1 ∧ x.endPc = q.2.1 ∧ x.handlerPc = q.2.2.1 ∧ x.catchType = q.2.2.2.1 := by
        unfold cl4 at hx
        simp only [Prod.mk.injEq] at hx
        exact hx
      obtain ⟨x1, x2, x3, x4⟩ := hx1
      unfold nHit at hn
      by_cases hc : q.1 ≤ pc ∧ pc < q.2.1 ∧ q.2.2.2.1 ≠ 0
      · rw [if_pos hc] at hn
        obtain ⟨hj, hlink⟩ := hq q List.mem_cons_self
        obtain ⟨c', hc', hcl⟩ := Cond.classLink_spec hown hlink pl hpl
        refine ⟨by simp [covers, x1, x2, hc.1, hc.2.1], by rw [x4]; exact hc.2.2, c', by rw [x4]; exact hcl, ?_⟩
        by_cases hjk : q.2.2.2.2 = k
        · rw [if_pos hjk] at hn
          refine Or.inl ⟨?_, by rw [x3]; exact Option.some.inj hn⟩
          rw [hjk] at hc'
          obtain ⟨a1, a2, g1, g2, g3⟩ := Cond.castable_spec hself
          rw [hth] at g1 g2 hc'
          cases g1; cases g2; cases hc'
          exact g3
        · rw [if_neg hjk] at hn
          refine Or.inr ⟨?_, ih es (fun q' h' => hq q' (List.mem_cons_of_mem _ h')) hes hn⟩
          obtain ⟨a1, a2, g1, g2, g3⟩ := hE.2.2.2.2.2 k q.2.2.2.2 hk4 hj (fun h => hjk h.symm)
          rw [hth] at g1
          rw [hc'] at g2
          cases g1; cases g2
          exact g3
      · rw [if_neg hc] at hn; cases hn
theorem CtiW.op {Q : Int32 → St → Prop} (hy : plainName y.cls = true) (hown : y.cls = own) (hlen : (lg_sl As).length ≤ nL) (hcl : ∀ (s : State) (args : Array Value), KK l G s → ∀ q ∈ cl, q.2.2.2.2 < 4 ∧ (Cond.classLink own q.2.2.2.1 (xcn q.2.2.2.2)).before args s = true)
    (body : ∀ (p : Program) (e : Env) (s : State) (m : MethodId) (args : Array Value) (below : List Frame) (meth : Method) (c : Code) (ls : Array Slot), EnH p l s m meth c args cc nL own ret cl G → lv_has ls nL (lv_args 0 As) → Wd G z s.heap s.heap [] → W p l e rm s m args below meth c s.heap [] 0 0 (MQ below (QiR Q G) args s 1 6 (fr G)) (F0 m 0 ls [])) : CtiW l y cc nL ret cl rm G As z Q := by
  refine va_MetW (cc := cc) (maxL := nL) (ret := ret) (hh := cl.map cl4) hy rfl ?_
  intro p e s m args below meth c s₁ B hml hv
  obtain ⟨rfl, hO, hba, hE⟩ := hv
  rw [lg_entry_eq]
  have hts := atoms_spec (ws := [Cond.codeWith y cc nL ret (cl.map cl4)]) B.pre
  obtain ⟨m', meth', c', q0, q1, q2, q3, q4, q5, q6, q7, q8⟩ := Cond.codeWith_spec (hts _ List.mem_cons_self)
  cases Option.some.inj (q0.symm.trans B.named)
  cases Option.some.inj (q1.symm.trans B.method)
  cases Option.some.inj (q2.symm.trans (Stand.of_body B).code)
  exact body p e s m _ below meth c _ ⟨B.exec, B.bytes, hml, by rw [← hown]; exact findClass_of_methodNamed B.named, B.returns, B.notSynchronized, q5, hE, hcl s _ hE⟩ (lv_entry As hlen) ⟨hO.1, hO.2, va_S.rf, hba⟩
theorem yVXh {Qc : Array Value → State → Outcome → State → Prop} (E : EnH p l s m meth c args cc nL own ret cl G) (hM : MetX l y [Cond.code y cc' nL' ret'] rm (va_Pc (.ref b :: As) (IW l G z)) Qc (fr G)) (cw : LkV s args own C index y cc' nL' ret' n)
    (hrv : ∃ cellB : Cell, H[b]? = some cellB ∧ cellB.vm.isStatics = false ∧ s.vm.findClass C = some cellB.cls) (hR : rm.cells ≤ R.cells ∧ rm.slots ≤ R.slots ∧ rm.frames + 1 ≤ R.frames ∧ 8 + (nL' + 11) + rm.locals ≤ R.locals) (hW : Wd G z s.heap H locs) (hsz : ls.size = nL) (hn : As.length = n) (hst : st0 = As.reverse ++ .ref b :: rest) (hw8 : Nat.ble ((rest.map fun v => v.category).sum) 8 = true) (hdg : decode cc pc = .ok (.invokevirtual index, 3)) :
    XRun p l e R s m args below meth c H locs 0 0 (F0 m pc ls st0) rest (Qc (Value.ref b :: As).toArray) (fr G) := by
  obtain ⟨hx, hb, hml, hown, -, -, -, hE, -⟩ := E
  obtain ⟨c1, c4, c5, c6, c7, c8⟩ := cw
  exact xc_runV (own := own) (n := n) hx hb hml hown hM iw_blind (lk_code c1 c8) c4 c5 c6 c7 hR.2.2 hrv (fun U hU hw => ⟨rfl, iw_of hE hW U hU hw⟩) rfl hn hsz hst (lv_room (Nat.le_of_ble_eq_true hw8)) hdg ⟨by omega, by omega⟩
/-- what a clause's handler is to do with an exception of the k-th class -/
abbrev Hnd (p : Program) (l : Launch) (e : Env) (R : Room) (s : State) (m : MethodId) (args : Array Value) (below : List Frame) (meth : Method) (c : Code) (Qg : State → Prop) (G : GG) (pc : Nat) (ls : Array Slot) (cl : List Clause) (X : Nat → St → Prop) : Prop :=
  ∀ (x k : Nat) (z' : St) (H : Heap) (locs : List Loc), X k z' → Wd G z' s.heap H locs → ∃ h, k < 4 ∧ nHit pc k cl = some h ∧ W p l e R s m args below meth c H locs 1 6 Qg (F0 m h ls [.ref x])
theorem yk_thr {X : Nat → St → Prop} {T T' : State} {st₀ t : State} {L : List Loc} {x : Addr} (E : EnH p l s m meth c args cc nL own ret cl G) (X' : Stand p l e R s m args below meth c T' (locs ++ L) 1 6) (hW : Wd G z s.heap H locs) (h0 : st₀.heap = H) (hw0 : s.WarmedH st₀.vm) (hL : ∀ q ∈ L, fr G q.base) (e1 : T'.heap = t.heap) (hT : QT X G st₀ (.threw x) t) (hF : va_F (fr G) st₀ t)
    (kt : Hnd p l e R s m args below meth c Qg G pc ls cl X) (hst : ∀ tg, Steps p.tables e below ((T'.setTop (F0 m pc ls rest)).pushFrame (.throwing x)) tg → Steps p.tables e below (T.setTop (F0 m pc ls st0)) tg) : ∃ t, Steps p.tables e below (T.setTop (F0 m pc ls st0)) t ∧ Qg t := by
  obtain ⟨hx, hb, hml, hown, hr, hlk, hex, hE, hcl⟩ := E
  obtain ⟨a, k, z', ce, ho, hX, hO, hce, hvm, v, hv, hfc⟩ := hT
  cases ho
  obtain ⟨h, hk4, hh, w⟩ := kt x k z' T'.heap (locs ++ L) hX (wd_call hW h0 hL e1 hO hF)
  have hth : s.vm.findClass (xcn k) = some ce.cls := by
    rw [← (State.WarmedH.trans hw0 hv).alike.findClass]; exact hfc
  have hself : (Cond.castable (xcn k) (xcn k)).before args s = true := xk_self hE hk4
  have hcell : T'.heap[x]? = some ce := by rw [e1]; exact hce
  have hkc : ∃ kk, s.vm.classes[ce.cls]? = some kk := by
    obtain ⟨cC, kC, g1, g2, -⟩ := Cond.instantiable_spec (xk_inst (args := args) hE hk4)
    rw [hth] at g1
    cases g1
    exact ⟨kC, g2⟩
  have hpl : e.platform.magicAccessors = ({} : Platform).magicAccessors := by rw [X'.admits.platform]
  obtain ⟨vm', X2, hs2⟩ := xk_caught X' x (g := F0 m pc ls rest) rfl hcell hvm hkc (nhit_ok hpl hE hown hk4 hth hself cl _ hcl hex hh)
  obtain ⟨t2, a1, b1⟩ := w (T'.setVm vm') rfl X2
  exact ⟨t2, hst _ (hs2 _ a1), b1⟩
theorem yk_v {Q1 : St → Prop} {X : Nat → St → Prop} {a : Array Value} (E : EnH p l s m meth c args cc nL own ret cl G) (hr : XRun p l e R s m args below meth c H locs 0 0 (F0 m pc ls st0) rest (QvX Q1 X G a) (fr G)) (hW : Wd G z s.heap H locs) (kk : ∀ (z' : St) (H : Heap) (locs : List Loc), Q1 z' → Wd G z' s.heap H locs → W p l e R s m args below meth c H locs 0 0 Qg (F0 m (pc + 3) ls rest)) (kt : Hnd p l e R s m args below meth c Qg G pc ls cl X) : W p l e R s m args below meth c H locs 0 0 Qg (F0 m pc ls st0) := by
  intro T hT X'
  obtain ⟨o, st₀, t, T', L, h0, hw0, X2, hL, e1, e2, hq, hend⟩ := hr T hT X'
  rcases hend with ⟨v, rfl, hs⟩ | ⟨x, rfl, hs⟩
  · rcases hq with ⟨⟨z', hv, hq, hO⟩, hF⟩ | ⟨⟨_, _, _, _, hv, _⟩, _⟩
    · cases hv
      obtain ⟨t2, a1, b1⟩ := kk z' T'.heap (locs ++ L) hq (wd_call hW h0 hL e1 hO hF) T' rfl X2
      exact ⟨t2, hs t2 a1, b1⟩
    · cases hv
  · rcases hq with ⟨⟨z', hv, _⟩, _⟩ | ⟨hT9, hF⟩
    · cases hv
    · exact yk_thr E X2 hW h0 hw0 hL e1 hT9 hF kt hs
theorem yk_i {Q1 : Int32 → St → Prop} {X : Nat → St → Prop} {a : Array Value} (E : EnH p l s m meth c args cc nL own ret cl G) (hr : XRun p l e R s m args below meth c H locs 0 0 (F0 m pc ls st0) rest (QiX Q1 X G a) (fr G)) (hW : Wd G z s.heap H locs) (kk : ∀ (r : Int32) (z' : St) (H : Heap) (locs : List Loc), Q1 r z' → Wd G z' s.heap H locs → W p l e R s m args below meth c H locs 0 0 Qg (F0 m (pc + 3) ls (.int r :: rest))) (kt : Hnd p l e R s m args below meth c Qg G pc ls cl X) : W p l e R s m args below meth c H locs 0 0 Qg (F0 m pc ls st0) := by
  intro T hT X'
  obtain ⟨o, st₀, t, T', L, h0, hw0, X2, hL, e1, e2, hq, hend⟩ := hr T hT X'
  rcases hend with ⟨v, rfl, hs⟩ | ⟨x, rfl, hs⟩
  · rcases hq with ⟨⟨r, z', hv, hq, hO⟩, hF⟩ | ⟨⟨_, _, _, _, hv, _⟩, _⟩
    · cases hv
      obtain ⟨t2, a1, b1⟩ := kk r z' T'.heap (locs ++ L) hq (wd_call hW h0 hL e1 hO hF) T' rfl X2
      exact ⟨t2, hs t2 a1, b1⟩
    · cases hv
  · rcases hq with ⟨⟨r, z', hv, _⟩, _⟩ | ⟨hT9, hF⟩
    · cases hv
    · exact yk_thr E X2 hW h0 hw0 hL e1 hT9 hF kt hs
theorem yk_l {Q1 : Int64 → St → Prop} {X : Nat → St → Prop} {a : Array Value} (E : EnH p l s m meth c args cc nL own ret cl G) (hr : XRun p l e R s m args below meth c H locs 0 0 (F0 m pc ls st0) rest (QlX Q1 X G a) (fr G)) (hW : Wd G z s.heap H locs) (kk : ∀ (r : Int64) (z' : St) (H : Heap) (locs : List Loc), Q1 r z' → Wd G z' s.heap H locs → W p l e R s m args below meth c H locs 0 0 Qg (F0 m (pc + 3) ls (.long r :: rest))) (kt : Hnd p l e R s m args below meth c Qg G pc ls cl X) : W p l e R s m args below meth c H locs 0 0 Qg (F0 m pc ls st0) := by
  intro T hT X'
  obtain ⟨o, st₀, t, T', L, h0, hw0, X2, hL, e1, e2, hq, hend⟩ := hr T hT X'
  rcases hend with ⟨v, rfl, hs⟩ | ⟨x, rfl, hs⟩
  · rcases hq with ⟨⟨r, z', hv, hq, hO⟩, hF⟩ | ⟨⟨_, _, _, _, hv, _⟩, _⟩
    · cases hv
      obtain ⟨t2, a1, b1⟩ := kk r z' T'.heap (locs ++ L) hq (wd_call hW h0 hL e1 hO hF) T' rfl X2
      exact ⟨t2, hs t2 a1, b1⟩
    · cases hv
  · rcases hq with ⟨⟨r, z', hv, _⟩, _⟩ | ⟨hT9, hF⟩
    · cases hv
    · exact yk_thr E X2 hW h0 hw0 hL e1 hT9 hF kt hs
/-- return of an int behind a walk that counted so much -/
theorem yr_iC {Q : Int32 → St → Prop} {v : Int32} (hx : p.tables.exec = Jvm.exec) (hb : c.code = cc) (hr : meth.sig.returnType = some .int) (hlk : meth.locks = false) (hW : Wd G z s.heap H locs) (hq : Q v z) (hdg : decode cc pc = .ok (.ireturn, 1)) (hc : cells ≤ 1) (hs : slots ≤ 6) : W p l e R s m args below meth c H locs cells slots (MQ below (QiR Q G) args s 1 6 (fr G)) (F0 m pc ls [.int v]) :=
  W.widen hc hs (W.iret hx hb hr (fun t ht _ => ⟨⟨v, z, rfl, hq, hW.ow ht⟩, hW.2.2.1.F ht⟩) hW.2.2.1.2.2 hdg hlk)
end Wrap
