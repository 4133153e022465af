/-! Rows over the world: calls of contracts with one end or two, Math, throws. -/
section Calls9
variable {p : Program} {l : Launch} {e : Env} {R : Room} {s : State} {m : MethodId} {args : Array Value} {below : List Frame} {meth : Method} {c : Code} {H : Heap} {locs : List Loc} {Qg : State → Prop} {G : GG} {z : St} {cc cc' : ByteArray} {pc nL nL' n index : Nat} {ls : Array Slot} {rest As st0 : List Value} {own C host : String} {ret ret' : Option FieldType} {y : MethodName} {rm : Room} {b : Nat}
theorem iw_of (hE : KK l G s) (hW : Wd G z s.heap H locs) : ∀ U : State, U.heap = H → s.WarmedH U.vm → IW l G z U := fun U hU hw =>
  ⟨hW.ow hU, by rw [hU]; exact Nat.le_trans hW.2.2.2 hW.2.2.1.1, hE.warm hw (fun q h1 h2 => by rw [hU]; exact hW.2.2.1.2.1 q h1 h2)⟩
theorem iw_blind {As : List Value} : FrameBlind (va_Pc As (IW l G z)) := fun _ _ _ _ h => ⟨h.1, h.2.1, h.2.2.1, h.2.2.2.same rfl rfl⟩
/-- the words of a call by invokevirtual, whatever the room -/
def LkV (s : State) (args : Array Value) (own C : String) (index : Nat) (y : MethodName) (cc : ByteArray) (nL : Nat) (ret : Option FieldType) (n : Nat) : Prop :=
  (y.cls ≠ "java/lang/invoke/MethodHandle" ∧ y.cls ≠ "java/lang/invoke/VarHandle" ∧ (parseMethodDescriptor y.desc).map (fun d => d.parameters.length) = some n) ∧ (Cond.methodLink own index y).before args s = true ∧ (Cond.instanceMethod y).before args s = true ∧ (Cond.selects C y y).before args s = true ∧ (Cond.initialized y.cls).before args s = true ∧ ∀ (a' : Array Value) (U : State), s.WarmedH U.vm → (Cond.code y cc nL ret).before a' U = true
def LkS (s : State) (args : Array Value) (own : String) (index : Nat) (y : MethodName) (cc : ByteArray) (nL : Nat) (ret : Option FieldType) (n : Nat) : Prop :=
  (y.cls ≠ "java/lang/invoke/MethodHandle" ∧ y.cls ≠ "java/lang/invoke/VarHandle" ∧ (parseMethodDescriptor y.desc).map (fun d => d.parameters.length) = some n) ∧ (Cond.methodLink own index y).before args s = true ∧ (Cond.static y).before args s = true ∧ (Cond.initialized y.cls).before args s = true ∧ ∀ (a' : Array Value) (U : State), s.WarmedH U.vm → (Cond.code y cc nL ret).before a' U = true
def LkSN (s : State) (args : Array Value) (own host : String) (index : Nat) (y : MethodName) (cc : ByteArray) (nL : Nat) (ret : Option FieldType) (n : Nat) : Prop :=
  (y.cls ≠ "java/lang/invoke/MethodHandle" ∧ y.cls ≠ "java/lang/invoke/VarHandle" ∧ (parseMethodDescriptor y.desc).map (fun d => d.parameters.length) = some n) ∧ (Cond.methodLinkNest own index y host).before args s = true ∧ (Cond.static y).before args s = true ∧ (Cond.initialized y.cls).before args s = true ∧ ∀ (a' : Array Value) (U : State), s.WarmedH U.vm → (Cond.code y cc nL ret).before a' U = true
theorem lk_len {y : MethodName} (h : (parseMethodDescriptor y.desc).map (fun d => d.parameters.length) = some n) : ∀ sig, parseMethodDescriptor y.desc = some sig → n = sig.parameters.length := by
  intro sig h2
  rw [h2] at h
  exact (Option.some.inj h).symm
theorem yV {Qc : Array Value → State → Outcome → State → Prop} (E : En p l s m meth c args cc nL own ret G) (hM : Met l y [Cond.code y cc' nL' ret'] rm (va_Pc (.ref b :: As) (IW l G z)) Qc 0 0 (fr G)) (cw : LkV s args own C index y cc' nL' ret' n)
    (hrv : ∃ cellB : Cell, H[b]? = some cellB ∧ cellB.vm.isStatics = false ∧ s.vm.findClass C = some cellB.cls) (hR : rm.cells = 0 ∧ rm.slots = 0 ∧ rm.frames + 1 ≤ R.frames ∧ 8 + (nL' + 11) + rm.locals ≤ R.locals) (hW : Wd G z s.heap H locs) (hsz : ls.size = nL) (hn : As.length = n) (hst : st0 = As.reverse ++ .ref b :: rest) (hw8 : Nat.ble ((rest.map fun v => v.category).sum) 8 = true) (hdg : decode cc pc = .ok (.invokevirtual index, 3)) :
    va_Run p l e R s m args below meth c H locs 0 0 0 0 (F0 m pc ls st0) rest (Qc (Value.ref b :: As).toArray) (fr G) := by
  obtain ⟨hx, hb, hml, hown, -, -, -, hE⟩ := E
  obtain ⟨⟨c1, c2, c3⟩, c4, c5, c6, c7, c8⟩ := cw
  refine va_runV (Ts := []) (own := own) (n := n) ⟨hx, hb, hml, hown, fun _ h => nomatch h⟩ hM ⟨⟨hR.1, hR.2.1, hR.2.2.1, hR.2.2.2, ?_, List.mem_cons_self, c8 _ _ (State.WarmedH.refl s), c7, ⟨c1, c2⟩, lk_len c3, c4⟩, c5, c6⟩ ⟨iw_blind, hrv, fun U hU hw => ⟨rfl, iw_of hE hW U hU hw⟩⟩ rfl hn hsz hst (lv_room (Nat.le_of_ble_eq_true hw8)) hdg ⟨Nat.zero_le _, Nat.zero_le _⟩
  intro w hw a' U hU
  rw [List.mem_singleton.mp hw]
  exact c8 a' U hU
theorem yS {Qc : Array Value → State → Outcome → State → Prop} (E : En p l s m meth c args cc nL own ret G) (hM : Met l y [Cond.code y cc' nL' ret'] rm (va_Pc As (IW l G z)) Qc 0 0 (fr G)) (cw : LkS s args own index y cc' nL' ret' n)
    (hR : rm.cells = 0 ∧ rm.slots = 0 ∧ rm.frames + 1 ≤ R.frames ∧ 8 + (nL' + 11) + rm.locals ≤ R.locals) (hW : Wd G z s.heap H locs) (hsz : ls.size = nL) (hn : As.length = n) (hst : st0 = As.reverse ++ rest) (hw8 : Nat.ble ((rest.map fun v => v.category).sum) 8 = true) (hdg : decode cc pc = .ok (.invokestatic index, 3)) :
    va_Run p l e R s m args below meth c H locs 0 0 0 0 (F0 m pc ls st0) rest (Qc As.toArray) (fr G) := by
  obtain ⟨hx, hb, hml, hown, -, -, -, hE⟩ := E
  obtain ⟨⟨c1, c2, c3⟩, c4, c5, c7, c8⟩ := cw
  refine va_runS (Ts := []) (own := own) (n := n) ⟨hx, hb, hml, hown, fun _ h => nomatch h⟩ hM ⟨⟨hR.1, hR.2.1, hR.2.2.1, hR.2.2.2, ?_, List.mem_cons_self, c8 _ _ (State.WarmedH.refl s), c7, ⟨c1, c2⟩, lk_len c3, c4⟩, c5⟩ ⟨iw_blind, fun U hU hw => ⟨rfl, iw_of hE hW U hU hw⟩⟩ rfl hn hsz hst (lv_room (Nat.le_of_ble_eq_true hw8)) hdg ⟨Nat.zero_le _, Nat.zero_le _⟩
  intro w hw a' U hU
  rw [List.mem_singleton.mp hw]
  exact c8 a' U hU
theorem ySN {Qc : Array Value → State → Outcome → State → Prop} (E : En p l s m meth c args cc nL own ret G) (hM : Met l y [Cond.code y cc' nL' ret'] rm (va_Pc As (IW l G z)) Qc 0 0 (fr G)) (cw : LkSN s args own host index y cc' nL' ret' n)
    (hR : rm.cells = 0 ∧ rm.slots = 0 ∧ rm.frames + 1 ≤ R.frames ∧ 8 + (nL' + 11) + rm.locals ≤ R.locals) (hW : Wd G z s.heap H locs) (hsz : ls.size = nL) (hn : As.length = n) (hst : st0 = As.reverse ++ rest) (hw8 : Nat.ble ((rest.map fun v => v.category).sum) 8 = true) (hdg : decode cc pc = .ok (.invokestatic index, 3)) :
    va_Run p l e R s m args below meth c H locs 0 0 0 0 (F0 m pc ls st0) rest (Qc As.toArray) (fr G) := by
  obtain ⟨hx, hb, hml, hown, -, -, -, hE⟩ := E
  obtain ⟨⟨c1, c2, c3⟩, c4, c5, c7, c8⟩ := cw
  refine va_runSN (Ts := []) (own := own) (host := host) (n := n) ⟨hx, hb, hml, hown, fun _ h => nomatch h⟩ hM ⟨⟨⟨hR.1, hR.2.1, hR.2.2.1, hR.2.2.2, ?_, List.mem_cons_self⟩, c8 _ _ (State.WarmedH.refl s), c7, ⟨c1, c2⟩, lk_len c3, c4⟩, c5, trivial⟩ ⟨iw_blind, fun U hU hw => ⟨rfl, iw_of hE hW U hU hw⟩⟩ rfl hn hsz hst (lv_room (Nat.le_of_ble_eq_true hw8)) hdg ⟨Nat.zero_le _, Nat.zero_le _⟩
  intro w hw a' U hU
  rw [List.mem_singleton.mp hw]
  exact c8 a' U hU
theorem yc_v {Q1 : St → Prop} {a : Array Value} (hr : va_Run p l e R s m args below meth c H locs 0 0 0 0 (F0 m pc ls st0) rest (QvR Q1 G a) (fr G)) (hW : Wd G z s.heap H locs) (kk : ∀ (z' : St) (H : Heap) (locs : List Loc), Q1 z' → Wd G z' s.heap H locs → W p l e R s m args below meth c H locs 0 0 Qg (F0 m (pc + 3) ls rest)) : W p l e R s m args below meth c H locs 0 0 Qg (F0 m pc ls st0) :=
  va_callv hr hW.2.2.1 (fun _ _ h => h) (fun _ h => h) (fun u t H1 locs1 ht _ hq hB _ _ hS => kk u H1 locs1 hq ⟨by rw [← ht]; exact hB.1, hB.2, hS, hW.2.2.2⟩)
theorem yc_i {Q1 : Int32 → St → Prop} {a : Array Value} (hr : va_Run p l e R s m args below meth c H locs 0 0 0 0 (F0 m pc ls st0) rest (QiR Q1 G a) (fr G)) (hW : Wd G z s.heap H locs) (kk : ∀ (r : Int32) (z' : St) (H : Heap) (locs : List Loc), Q1 r z' → Wd G z' s.heap H locs → W p l e R s m args below meth c H locs 0 0 Qg (F0 m (pc + 3) ls (.int r :: rest))) : W p l e R s m args below meth c H locs 0 0 Qg (F0 m pc ls st0) :=
  va_calli hr hW.2.2.1 (fun _ _ h => h) (fun _ h => h) (fun r u t H1 locs1 ht _ hq hB _ _ hS => kk r u H1 locs1 hq ⟨by rw [← ht]; exact hB.1, hB.2, hS, hW.2.2.2⟩)
theorem yc_l {Q1 : Int64 → St → Prop} {a : Array Value} (hr : va_Run p l e R s m args below meth c H locs 0 0 0 0 (F0 m pc ls st0) rest (QlR Q1 G a) (fr G)) (hW : Wd G z s.heap H locs) (kk : ∀ (r : Int64) (z' : St) (H : Heap) (locs : List Loc), Q1 r z' → Wd G z' s.heap H locs → W p l e R s m args below meth c H locs 0 0 Qg (F0 m (pc + 3) ls (.long r :: rest))) : W p l e R s m args below meth c H locs 0 0 Qg (F0 m pc ls st0) :=
  va_calll hr hW.2.2.1 (fun _ _ h => h) (fun _ h => h) (fun r u t H1 locs1 ht _ hq hB _ _ hS => kk r u H1 locs1 hq ⟨by rw [← ht]; exact hB.1, hB.2, hS, hW.2.2.2⟩)
/-- a cell of the world is an object of its class -/
theorem yrecv (hE : KK l G s) (hW : Wd G z s.heap H locs) {cN ci n : Nat} {T : u_T} {fs : List Value} (hc : cN < 50) (he : ce G cN (z.1 cN) (z.2 cN) = .inr (ci, fs)) (hcl : vcl[ci]? = some (C, T, n)) : ∃ cellB : Cell, H[ha G cN]? = some cellB ∧ cellB.vm.isStatics = false ∧ s.vm.findClass C = some cellB.cls := by
  obtain ⟨r, h1, cell, q1, q2, q3, q4⟩ := hW.1 cN (ha G cN, .inr (ci, fs)) (by rw [wcs_at G z hc, he])
  cases Option.some.inj (h1.symm.trans hcl)
  obtain ⟨hS, hfc, -⟩ := hE.1.1 ci _ hcl
  exact ⟨cell, q1, by rw [q3]; rfl, by rw [q2]; exact hfc⟩
end Calls9
