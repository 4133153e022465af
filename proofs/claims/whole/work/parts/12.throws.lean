/-! Rows over the world: Math, throws, calls of contracts with two ends. -/
section Throws12
variable {p : Program} {l : Launch} {e : Env} {R : Room} {s : State} {m : MethodId} {args : Array Value} {below : List Frame} {meth : Method} {c : Code} {H : Heap} {locs : List Loc} {Qg : State → Prop} {G : GG} {z : St} {cc cc' : ByteArray} {pc nL nL' n index : Nat} {ls : Array Slot} {rest As st0 : List Value} {own C host : String} {ret ret' : Option FieldType} {y : MethodName} {rm : Room} {b : Nat}
theorem ym_maxI {x y : Int32} (hx : p.tables.exec = Jvm.exec) (hb : c.code = cc) (hml : c.maxLocals = ls.size) (hown : s.vm.findClass own = some m.cls) (hE : KK l G s) (hlink : (Cond.methodLink own index Lib.Math.max.name).before args s = true) (hR : 1 ≤ R.frames ∧ 23 ≤ R.locals) (hw8 : Nat.ble ((rest.map fun v => v.category).sum) 8 = true) (hdg : decode cc pc = .ok (.invokestatic index, 3))
    (kk : W p l e R s m args below meth c H locs 0 0 Qg (F0 m (pc + 3) ls (.int (mmaxI x y) :: rest))) : W p l e R s m args below meth c H locs 0 0 Qg (F0 m pc ls (.int y :: .int x :: rest)) :=
  va_mmax hx hb hml hown hlink (ms_maxI hE) (ms_ini hE) (mc_maxI hE) hR.1 (by have h := Nat.le_of_ble_eq_true hw8; omega) (Nat.zero_le _) (Nat.zero_le _) hdg kk
theorem ym_minI {x y : Int32} (hx : p.tables.exec = Jvm.exec) (hb : c.code = cc) (hml : c.maxLocals = ls.size) (hown : s.vm.findClass own = some m.cls) (hE : KK l G s) (hlink : (Cond.methodLink own index Lib.Math.min.name).before args s = true) (hR : 1 ≤ R.frames ∧ 23 ≤ R.locals) (hw8 : Nat.ble ((rest.map fun v => v.category).sum) 8 = true) (hdg : decode cc pc = .ok (.invokestatic index, 3))
    (kk : W p l e R s m args below meth c H locs 0 0 Qg (F0 m (pc + 3) ls (.int (mminI x y) :: rest))) : W p l e R s m args below meth c H locs 0 0 Qg (F0 m pc ls (.int y :: .int x :: rest)) :=
  va_mmin hx hb hml hown hlink (ms_minI hE) (ms_ini hE) (mc_minI hE) hR.1 (by have h := Nat.le_of_ble_eq_true hw8; omega) (Nat.zero_le _) (Nat.zero_le _) hdg kk
theorem ym_maxL {x y : Int64} (hx : p.tables.exec = Jvm.exec) (hb : c.code = cc) (hml : c.maxLocals = ls.size) (hown : s.vm.findClass own = some m.cls) (hE : KK l G s) (hlink : (Cond.methodLink own index Lib.MathLoose.max_long.x).before args s = true) (hR : 1 ≤ R.frames ∧ 23 ≤ R.locals) (hw8 : Nat.ble ((rest.map fun v => v.category).sum) 8 = true) (hdg : decode cc pc = .ok (.invokestatic index, 3))
    (kk : W p l e R s m args below meth c H locs 0 0 Qg (F0 m (pc + 3) ls (.long (mmaxL x y) :: rest))) : W p l e R s m args below meth c H locs 0 0 Qg (F0 m pc ls (.long y :: .long x :: rest)) :=
  va_mmax_long hx hb hml hown hlink (ms_maxL hE) (ms_ini hE) (mc_maxL hE) hR.1 (by have h := Nat.le_of_ble_eq_true hw8; omega) (Nat.zero_le _) (Nat.zero_le _) hdg kk
theorem ym_minL {x y : Int64} (hx : p.tables.exec = Jvm.exec) (hb : c.code = cc) (hml : c.maxLocals = ls.size) (hown : s.vm.findClass own = some m.cls) (hE : KK l G s) (hlink : (Cond.methodLink own index Lib.MathLoose.min_long.x).before args s = true) (hR : 1 ≤ R.frames ∧ 23 ≤ R.locals) (hw8 : Nat.ble ((rest.map fun v => v.category).sum) 8 = true) (hdg : decode cc pc = .ok (.invokestatic index, 3))
    (kk : W p l e R s m args below meth c H locs 0 0 Qg (F0 m (pc + 3) ls (.long (mminL x y) :: rest))) : W p l e R s m args below meth c H locs 0 0 Qg (F0 m pc ls (.long y :: .long x :: rest)) :=
  va_mmin_long hx hb hml hown hlink (ms_minL hE) (ms_ini hE) (mc_minL hE) hR.1 (by have h := Nat.le_of_ble_eq_true hw8; omega) (Nat.zero_le _) (Nat.zero_le _) hdg kk
/-- a call over a heavier stack than the kit's rows take -/
theorem yVw {Qc : Array Value → State → Outcome → State → Prop} (wt : Nat) (E : En p l s m meth c args cc nL own ret G) (hM : Met l y [Cond.code y cc' nL' ret'] rm (va_Pc (.ref b :: As) (IW l G z)) Qc 0 0 (fr G)) (cw : LkV s args own C index y cc' nL' ret' n)
    (hrv : ∃ cellB : Cell, H[b]? = some cellB ∧ cellB.vm.isStatics = false ∧ s.vm.findClass C = some cellB.cls) (hR : rm.cells = 0 ∧ rm.slots = 0 ∧ rm.frames + 1 ≤ R.frames ∧ wt + (nL' + 11) + rm.locals ≤ R.locals) (hW : Wd G z s.heap H locs) (hsz : ls.size = nL) (hn : As.length = n) (hst : st0 = As.reverse ++ .ref b :: rest) (hw8 : Nat.ble ((rest.map fun v => v.category).sum) wt = true) (hdg : decode cc pc = .ok (.invokevirtual index, 3)) :
    va_Run p l e R s m args below meth c H locs 0 0 0 0 (F0 m pc ls st0) rest (Qc (Value.ref b :: As).toArray) (fr G) := by
  obtain ⟨hx, hb, hml, hown, -, -, -, hE⟩ := E
  obtain ⟨⟨c1, c2, c3⟩, c4, c5, c6, c7, c8⟩ := cw
  have hws : ∀ w ∈ [Cond.code y cc' nL' ret'], ∀ (a' : Array Value) (U : State), s.WarmedH U.vm → w.before a' U = true := by
    intro w hw a' U hU
    rw [List.mem_singleton.mp hw]
    exact c8 a' U hU
  have hK : Back l R p e below s args y 3 wt (PreOf R 0 0 (va_Pc (.ref b :: As) (IW l G z))) (PostOf Qc 0 0 (fr G)) := back_of (bytes := cc') (maxL := nL') (ret := ret') hM iw_blind hR.1 hR.2.1 hR.2.2.1 hR.2.2.2 hws List.mem_cons_self (fun a' U hU => wk_at hU rfl c7)
  obtain ⟨cellB, hcB, hoB, hclB⟩ := hrv
  intro T hT X
  obtain ⟨v, vm₁, ⟨U', l2, k2, s2⟩, hW₁, X', ⟨g', mk, t, L, e1, e2, hq, h1, hL, h2, h3⟩, st⟩ := callV X hx (C := C) (bytes := cc') (maxL := nL') (ret := ret') hown c4 c5 c6 (c8 _ _ (State.WarmedH.refl s)) ⟨c1, c2⟩ hK (by rw [hT]; exact hcB) hoB hclB (g := F0 m pc ls st0) rfl (hsz.trans hml.symm) (argsL := As) (rest := rest) (fun sig h => hn.trans (lk_len c3 sig h)) hst (by show 2 * 0 + _ ≤ wt; rw [Nat.mul_zero, Nat.zero_add]; exact Nat.le_of_ble_eq_true hw8) (by rw [hb]; exact hdg)
    (fun vm₁ hW₁ => ⟨Nat.zero_le _, Nat.zero_le _, ⟨rfl, iw_of hE hW (T.setVm vm₁) hT hW₁⟩⟩)
  dsimp only [Pt.U, Pt.locs, Pt.cells, Pt.slots] at X' e1 e2 h1 h2 h3 st
  subst h1; subst h2; subst h3
  exact ⟨v, (T.setVm vm₁).calling g' mk (Value.ref b :: As).toArray, t, U', L, hT, X', hL, e1, e2, hq, st⟩
-- returns of a method with two ends
theorem yr_vX {Q : St → Prop} {X : Nat → St → Prop} (hx : p.tables.exec = Jvm.exec) (hb : c.code = cc) (hr : meth.sig.returnType = none) (hlk : meth.locks = false) (hW : Wd G z s.heap H locs) (hq : Q z) (hdg : decode cc pc = .ok (.return_, 1)) : W p l e R s m args below meth c H locs 0 0 (MQX below (QvX Q X G) args s (fr G)) (F0 m pc ls []) :=
  W.imp (fun _ h => MQX.of h) (W.vret (Qc := QvX Q X G) hx hb hr (fun t ht _ => Or.inl ⟨⟨z, rfl, hq, hW.ow ht⟩, hW.2.2.1.F ht⟩) hW.2.2.1.2.2 hdg hlk)
theorem yr_iX {Q : Int32 → St → Prop} {X : Nat → St → Prop} {v : Int32} (hx : p.tables.exec = Jvm.exec) (hb : c.code = cc) (hr : meth.sig.returnType = some .int) (hlk : meth.locks = false) (hW : Wd G z s.heap H locs) (hq : Q v z) (hdg : decode cc pc = .ok (.ireturn, 1)) : W p l e R s m args below meth c H locs 0 0 (MQX below (QiX Q X G) args s (fr G)) (F0 m pc ls [.int v]) :=
  W.imp (fun _ h => MQX.of h) (W.iret (Qc := QiX Q X G) hx hb hr (fun t ht _ => Or.inl ⟨⟨v, z, rfl, hq, hW.ow ht⟩, hW.2.2.1.F ht⟩) hW.2.2.1.2.2 hdg hlk)
theorem yr_zX {Q : Int32 → St → Prop} {X : Nat → St → Prop} {v : Int32} (hx : p.tables.exec = Jvm.exec) (hb : c.code = cc) (hr : meth.sig.returnType = some .boolean) (hlk : meth.locks = false) (hW : Wd G z s.heap H locs) (hz : zb v) (hq : Q v z) (hdg : decode cc pc = .ok (.ireturn, 1)) : W p l e R s m args below meth c H locs 0 0 (MQX below (QiX Q X G) args s (fr G)) (F0 m pc ls [.int v]) :=
  W.imp (fun _ h => MQX.of h) (W.zret (Qc := QiX Q X G) hx hb hr (zb_nar hz) (fun t ht _ => Or.inl ⟨⟨v, z, rfl, hq, hW.ow ht⟩, hW.2.2.1.F ht⟩) hW.2.2.1.2.2 hdg hlk)
theorem yr_lX {Q : Int64 → St → Prop} {X : Nat → St → Prop} {v : Int64} (hx : p.tables.exec = Jvm.exec) (hb : c.code = cc) (hr : meth.sig.returnType = some .long) (hlk : meth.locks = false) (hW : Wd G z s.heap H locs) (hq : Q v z) (hdg : decode cc pc = .ok (.lreturn, 1)) : W p l e R s m args below meth c H locs 0 0 (MQX below (QlX Q X G) args s (fr G)) (F0 m pc ls [.long v]) :=
  W.imp (fun _ h => MQX.of h) (W.lret (Qc := QlX Q X G) hx hb hr (fun t ht _ => Or.inl ⟨⟨v, z, rfl, hq, hW.ow ht⟩, hW.2.2.1.F ht⟩) hW.2.2.1.2.2 hdg hlk)
/-- throw new: the world stays -/
theorem yt {Qc : Array Value → State → Outcome → State → Prop} {X : Nat → St → Prop} {k ix is ic n2 : Nat} {tx : String} (hx : p.tables.exec = Jvm.exec) (hb : c.code = cc) (hown : s.vm.findClass own = some m.cls) (hlk : meth.locks = false) (hex : c.exceptionTable.isEmpty = true) (hE : KK l G s) (hW : Wd G z s.heap H locs) (hsz : ls.size = nL) (hml : c.maxLocals = nL)
    (hR : 6 ≤ R.frames ∧ 82 ≤ R.locals ∧ 1 ≤ R.cells ∧ 6 ≤ R.slots) (hfit : Bundle.fit (xcn k) = true) (ht : ∀ U : State, KK l G U → xt_Ok own (xcn k) tx xnm ix is ic args U)
    (d0 : decode cc pc = .ok (.new ix, 3)) (d1 : decode cc (pc + 3) = .ok (.dup, 1)) (d2 : (decode cc (pc + 3 + 1) = .ok (.ldc is, 2) ∧ n2 = 2) ∨ (decode cc (pc + 3 + 1) = .ok (.ldc_w is, 3) ∧ n2 = 3)) (d3 : decode cc (pc + 3 + 1 + n2) = .ok (.invokespecial ic, 3)) (d4 : decode cc (pc + 3 + 1 + n2 + 3) = .ok (.athrow, 1))
    (hX : X k z) (hc : ∀ (t : State) (a : Addr), QT X G s (.threw a) t → va_F (fr G) s t → Qc args s (.threw a) t) : W p l e R s m args below meth c H locs 0 0 (MQX below Qc args s (fr G)) (F0 m pc ls []) := by
  refine xt_throw (tx := tx) (names := xnm) hx hb (hsz.trans hml.symm) hown hE.2.2.2.2.1 hlk hex hfit (by decide +kernel) (fun U hU hw => ht U (iw_of hE hW U hU hw).2.2) ⟨by show 2 + 3 < R.frames; omega, by show 1 + (13 * (2 + 1) + 42) ≤ R.locals; omega⟩ (by omega) (by omega) hW.2.2.1.2.2 d0 d1 d2 d3 d4 ?_
  intro U ce hw hsz hold hce hvm hcl
  have hP : va_P G.1 vcl (wcs G z) U.heap := hW.1.kept (fun k q hk => hold q.1 (hW.1 k q hk).lt)
  refine hc U H.size ⟨H.size, k, z, ce, rfl, hX, ⟨hP, hW.2.1⟩, hce, hvm, hcl⟩ ⟨Nat.le_trans hW.2.2.1.1 hsz, fun q h1 h2 => ?_⟩
  rw [hold q (Nat.lt_of_lt_of_le h1 hW.2.2.1.1)]
  exact hW.2.2.1.2.1 q h1 h2
theorem lk_code {n : Nat} (hd : y.cls ≠ "java/lang/invoke/MethodHandle" ∧ y.cls ≠ "java/lang/invoke/VarHandle" ∧ (parseMethodDescriptor y.desc).map (fun d => d.parameters.length) = some n) (h : ∀ (a' : Array Value) (U : State), s.WarmedH U.vm → (Cond.code y cc nL ret).before a' U = true) : XCode s y nL n [Cond.code y cc nL ret] := by
  have h0 := h #[] s (State.WarmedH.refl s)
  obtain ⟨mk, hnamed⟩ := Cond.code_named h0
  obtain ⟨meth, c, q1, q2, q3, q4, q5, q6, q7, q8⟩ := Cond.code_spec hnamed h0
  refine ⟨⟨hd.1, hd.2.1⟩, fun a' U hU => atoms_intro (fun w hw => by rw [List.mem_singleton.mp hw]; exact h a' U hU), mk, meth, c, hnamed, q1, q2, q4, q8, ?_⟩
  have h3 := hd.2.2
  rw [q8] at h3
  exact Option.some.inj h3
theorem yVX {Qc : Array Value → State → Outcome → State → Prop} (E : En p l s m meth c args cc nL own ret G) (hM : MetX l y [Cond.code y cc' nL' ret'] rm (va_Pc (.ref b :: As) (IW l G z)) Qc (fr G)) (cw : LkV s args own C index y cc' nL' ret' n)
    (hrv : ∃ cellB : Cell, H[b]? = some cellB ∧ cellB.vm.isStatics = false ∧ s.vm.findClass C = some cellB.cls) (hR : rm.cells ≤ R.cells ∧ rm.slots ≤ R.slots ∧ rm.frames + 1 ≤ R.frames ∧ 8 + (nL' + 11) + rm.locals ≤ R.locals) (hW : Wd G z s.heap H locs) (hsz : ls.size = nL) (hn : As.length = n) (hst : st0 = As.reverse ++ .ref b :: rest) (hw8 : Nat.ble ((rest.map fun v => v.category).sum) 8 = true) (hdg : decode cc pc = .ok (.invokevirtual index, 3)) :
    XRun p l e R s m args below meth c H locs 0 0 (F0 m pc ls st0) rest (Qc (Value.ref b :: As).toArray) (fr G) := by
  obtain ⟨hx, hb, hml, hown, -, -, -, hE⟩ := E
  obtain ⟨c1, c4, c5, c6, c7, c8⟩ := cw
  exact xc_runV (own := own) (n := n) hx hb hml hown hM iw_blind (lk_code c1 c8) c4 c5 c6 c7 hR.2.2 hrv (fun U hU hw => ⟨rfl, iw_of hE hW U hU hw⟩) rfl hn hsz hst (lv_room (Nat.le_of_ble_eq_true hw8)) hdg ⟨by omega, by omega⟩
theorem ySX {Qc : Array Value → State → Outcome → State → Prop} (E : En p l s m meth c args cc nL own ret G) (hM : MetX l y [Cond.code y cc' nL' ret'] rm (va_Pc As (IW l G z)) Qc (fr G)) (cw : LkS s args own index y cc' nL' ret' n)
    (hR : rm.cells ≤ R.cells ∧ rm.slots ≤ R.slots ∧ rm.frames + 1 ≤ R.frames ∧ 8 + (nL' + 11) + rm.locals ≤ R.locals) (hW : Wd G z s.heap H locs) (hsz : ls.size = nL) (hn : As.length = n) (hst : st0 = As.reverse ++ rest) (hw8 : Nat.ble ((rest.map fun v => v.category).sum) 8 = true) (hdg : decode cc pc = .ok (.invokestatic index, 3)) :
    XRun p l e R s m args below meth c H locs 0 0 (F0 m pc ls st0) rest (Qc As.toArray) (fr G) := by
  obtain ⟨hx, hb, hml, hown, -, -, -, hE⟩ := E
  obtain ⟨c1, c4, c5, c7, c8⟩ := cw
  exact xc_runS (own := own) (n := n) hx hb hml hown hM iw_blind (lk_code c1 c8) c4 c5 c7 hR.2.2 (fun U hU hw => ⟨rfl, iw_of hE hW U hU hw⟩) rfl hn hsz hst (lv_room (Nat.le_of_ble_eq_true hw8)) hdg ⟨by omega, by omega⟩
/-- the throw that goes on through a caller without handlers -/
theorem yx_thr {X : Nat → St → Prop} {Qc : Array Value → State → Outcome → State → Prop} {T T' : State} {st₀ t : State} {L : List Loc} {x : Addr} {g : JFrame} (X' : Stand p l e R s m args below meth c T' (locs ++ L) 1 6) (hW : Wd G z s.heap H locs) (h0 : st₀.heap = H) (hw0 : s.WarmedH st₀.vm) (hL : ∀ q ∈ L, fr G q.base) (e1 : T'.heap = t.heap) (hT : QT X G st₀ (.threw x) t) (hF : va_F (fr G) st₀ t)
    (hlk : meth.locks = false) (hex : c.exceptionTable.isEmpty = true) (hg : g.method = m) (hgl : g.locked = none) (hge : g.entered = []) (hc : ∀ (t : State) (a : Addr), QT X G s (.threw a) t → va_F (fr G) s t → Qc args s (.threw a) t)
    (hst : ∀ tg, Steps p.tables e below ((T'.setTop g).pushFrame (.throwing x)) tg → Steps p.tables e below (T.setTop (F0 m pc ls st0)) tg) : ∃ t, Steps p.tables e below (T.setTop (F0 m pc ls st0)) t ∧ MQX below Qc args s (fr G) t := by
  obtain ⟨l1, l2, l3, l4, l5⟩ := X'.leaveThrown x hg hgl hge (fun y hy => by rw [Array.isEmpty_iff.mp hex] at hy; cases hy) hlk
  refine ⟨_, hst _ l1, .threw x, l2, l3, ?_, locs ++ L, ⟨l4, l5⟩, fun q hq => ?_⟩
  · obtain ⟨a, k, z', ce, ho, hX, hO, hce, hvm, v, hv, hcl⟩ := hT
    cases ho
    have e2 : (T'.setFrames (.throwing x :: below)).heap = t.heap := e1
    refine hc _ x ⟨x, k, z', ce, rfl, hX, ⟨by rw [e2]; exact hO.1, hO.2⟩, by rw [e2]; exact hce, hvm, v, State.WarmedH.trans hw0 hv, hcl⟩ ⟨?_, fun q h1 h2 => ?_⟩
    · rw [e2]; exact Nat.le_trans hW.2.2.1.1 (by rw [← h0]; exact hF.1)
    · have h3 := hF.2 q (by rw [h0]; exact Nat.lt_of_lt_of_le h1 hW.2.2.1.1) h2
      rw [e2, h3, h0]
      exact hW.2.2.1.2.1 q h1 h2
  · rcases List.mem_append.mp hq with h | h
    · exact hW.2.2.1.2.2 q h
    · exact hL q h
/-- the world behind a call that came back -/
theorem wd_call {z' : St} {st₀ t T' : State} {L : List Loc} (hW : Wd G z s.heap H locs) (h0 : st₀.heap = H) (hL : ∀ q ∈ L, fr G q.base) (e1 : T'.heap = t.heap) (hO : OW G z' t) (hF : va_F (fr G) st₀ t) : Wd G z' s.heap T'.heap (locs ++ L) := by
  refine ⟨by rw [e1]; exact hO.1, hO.2, ⟨?_, fun q h1 h2 => ?_, fun q hq => ?_⟩, hW.2.2.2⟩
  · rw [e1]; exact Nat.le_trans hW.2.2.1.1 (by rw [← h0]; exact hF.1)
  · have h3 := hF.2 q (by rw [h0]; exact Nat.lt_of_lt_of_le h1 hW.2.2.1.1) h2
    rw [e1, h3, h0]
    exact hW.2.2.1.2.1 q h1 h2
  · rcases List.mem_append.mp hq with h | h
    · exact hW.2.2.1.2.2 q h
    · exact hL q h
theorem yx_v {Q1 : St → Prop} {X : Nat → St → Prop} {Qc : Array Value → State → Outcome → State → Prop} {a : Array Value} (hr : XRun p l e R s m args below meth c H locs 0 0 (F0 m pc ls st0) rest (QvX Q1 X G a) (fr G)) (hW : Wd G z s.heap H locs) (kk : ∀ (z' : St) (H : Heap) (locs : List Loc), Q1 z' → Wd G z' s.heap H locs → W p l e R s m args below meth c H locs 0 0 (MQX below Qc args s (fr G)) (F0 m (pc + 3) ls rest)) (hlk : meth.locks = false) (hex : c.exceptionTable.isEmpty = true) (hc : ∀ (t : State) (a : Addr), QT X G s (.threw a) t → va_F (fr G) s t → Qc args s (.threw a) t) : W p l e R s m args below meth c H locs 0 0 (MQX below Qc args s (fr G)) (F0 m pc ls st0) := by
  intro T hT X'
  obtain ⟨o, st₀, t, T', L, h0, hw0, X2, hL, e1, e2, hq, hend⟩ := hr T hT X'
  rcases hend with ⟨v, rfl, hs⟩ | ⟨x, rfl, hs⟩
  · rcases hq with ⟨⟨z', hv, hq, hO⟩, hF⟩ | ⟨⟨_, _, _, _, hv, _⟩, _⟩
    · cases hv
      obtain ⟨t2, a1, b1⟩ := kk z' T'.heap (locs ++ L) hq (wd_call hW h0 hL e1 hO hF) T' rfl X2
      exact ⟨t2, hs t2 a1, b1⟩
    · cases hv
  · rcases hq with ⟨⟨z', hv, _⟩, _⟩ | ⟨hT9, hF⟩
    · cases hv
    · exact yx_thr (g := F0 m pc ls rest) X2 hW h0 hw0 hL e1 hT9 hF hlk hex rfl rfl rfl hc hs
theorem yx_i {Q1 : Int32 → St → Prop} {X : Nat → St → Prop} {Qc : Array Value → State → Outcome → State → Prop} {a : Array Value} (hr : XRun p l e R s m args below meth c H locs 0 0 (F0 m pc ls st0) rest (QiX Q1 X G a) (fr G)) (hW : Wd G z s.heap H locs) (kk : ∀ (r : Int32) (z' : St) (H : Heap) (locs : List Loc), Q1 r z' → Wd G z' s.heap H locs → W p l e R s m args below meth c H locs 0 0 (MQX below Qc args s (fr G)) (F0 m (pc + 3) ls (.int r :: rest))) (hlk : meth.locks = false) (hex : c.exceptionTable.isEmpty = true) (hc : ∀ (t : State) (a : Addr), QT X G s (.threw a) t → va_F (fr G) s t → Qc args s (.threw a) t) : W p l e R s m args below meth c H locs 0 0 (MQX below Qc args s (fr G)) (F0 m pc ls st0) := by
  intro T hT X'
  obtain ⟨o, st₀, t, T', L, h0, hw0, X2, hL, e1, e2, hq, hend⟩ := hr T hT X'
  rcases hend with ⟨v, rfl, hs⟩ | ⟨x, rfl, hs⟩
  · rcases hq with ⟨⟨r, z', hv, hq, hO⟩, hF⟩ | ⟨⟨_, _, _, _, hv, _⟩, _⟩
    · cases hv
      obtain ⟨t2, a1, b1⟩ := kk r z' T'.heap (locs ++ L) hq (wd_call hW h0 hL e1 hO hF) T' rfl X2
      exact ⟨t2, hs t2 a1, b1⟩
    · cases hv
  · rcases hq with ⟨⟨r, z', hv, _⟩, _⟩ | ⟨hT9, hF⟩
    · cases hv
    · exact yx_thr (g := F0 m pc ls rest) X2 hW h0 hw0 hL e1 hT9 hF hlk hex rfl rfl rfl hc hs
end Throws12
