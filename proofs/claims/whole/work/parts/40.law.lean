/-! Rows of the law itself: its surroundings, its script, calls over a count of cells that grows. -/
abbrev EnL (p : Program) (l : Launch) (s : State) (m : MethodId) (meth : Method) (c : Code) (args : Array Value) (b L : Nat) (xs : Nat → Int32) (G : GG) : Prop :=
  p.tables.exec = Jvm.exec ∧ c.code = code ∧ c.maxLocals = 8 ∧ s.vm.findClass R_L = some m.cls ∧ meth.sig.returnType = ret ∧ meth.locks = false ∧ va_X b L xs s s.heap ∧ b < s.heap.size ∧ ba G = s.heap.size ∧ KK l G s
def LkW (s : State) (args : Array Value) (own : String) (index : Nat) (y : MethodName) (cc : ByteArray) (nL : Nat) (ret : Option FieldType) (cl : List Clause) (n : Nat) : Prop :=
  (y.cls ≠ "java/lang/invoke/MethodHandle" ∧ y.cls ≠ "java/lang/invoke/VarHandle" ∧ (parseMethodDescriptor y.desc).map (fun d => d.parameters.length) = some n) ∧ (Cond.methodLink own index y).before args s = true ∧ (Cond.static y).before args s = true ∧ (Cond.initialized y.cls).before args s = true ∧ ∀ (a' : Array Value) (U : State), s.WarmedH U.vm → (Cond.codeWith y cc nL ret (cl.map cl4)).before a' U = true
section Law40
variable {p : Program} {l : Launch} {e : Env} {s : State} {m : MethodId} {args : Array Value} {below : List Frame} {meth : Method} {c : Code} {H : Heap} {locs : List Loc} {cells slots : Nat} {Qg : State → Prop} {G : GG} {z : St} {cc' : ByteArray} {pc nL' n index b L : Nat} {xs : Nat → Int32} {ls : Array Slot} {rest As st0 : List Value} {C : String} {ret' : Option FieldType} {y : MethodName} {rm : Room} {a : Nat} {cl : List Clause}
theorem ysl {i x : Int32} (E : EnL p l s m meth c args b L xs G) (hW : Wd G z s.heap H locs) (hin : vp_in i L) (hv : xs i.toNatClampNeg = x) (hdg : decode code pc = .ok (.iaload, 1)) (kk : W p l e room_1 s m args below meth c H locs cells slots Qg (F0 m (pc + 1) ls (.int x :: rest))) : W p l e room_1 s m args below meth c H locs cells slots Qg (F0 m pc ls (.int i :: .ref b :: rest)) := by
  obtain ⟨hx, hb, hml, hown, hr, hlk, hX, hbl, hba, hE⟩ := E
  subst hv
  exact va_sld hx hb hX hbl (fun h => by have h9 : ba G ≤ b := h; omega) hW.2.2.1 hin hdg kk
theorem ya_49 {cc : ByteArray} {R : Room} {i : Int32} (hx : p.tables.exec = Jvm.exec) (hb : c.code = cc) (hE : KK l G s) (hW : Wd G z s.heap H locs) (hi : vp_in i 1) (hdg : decode cc pc = .ok (.laload, 1)) (kk : W p l e R s m args below meth c H locs cells slots Qg (F0 m (pc + 1) ls (.long (z.2 49 i.toNatClampNeg) :: rest))) : W p l e R s m args below meth c H locs cells slots Qg (F0 m pc ls (.int i :: .ref (ha G 49) :: rest)) := yaJ hx hb hE hW (by decide) rfl hi hdg kk
theorem yLV {Qc : Array Value → State → Outcome → State → Prop} (E : EnL p l s m meth c args b L xs G) (hM : Met l y [Cond.code y cc' nL' ret'] rm (va_Pc (.ref a :: As) (IW l G z)) Qc 0 0 (fr G)) (cw : LkV s args R_L C index y cc' nL' ret' n)
    (hrv : ∃ cellB : Cell, H[a]? = some cellB ∧ cellB.vm.isStatics = false ∧ s.vm.findClass C = some cellB.cls) (hR : rm.cells = 0 ∧ rm.slots = 0 ∧ rm.frames + 1 ≤ 11 ∧ 8 + (nL' + 11) + rm.locals ≤ 396) (hcs : cells ≤ 1097 ∧ slots ≤ 24514) (hW : Wd G z s.heap H locs) (hsz : ls.size = 8) (hn : As.length = n) (hst : st0 = As.reverse ++ .ref a :: rest) (hw8 : Nat.ble ((rest.map fun v => v.category).sum) 8 = true) (hdg : decode code pc = .ok (.invokevirtual index, 3)) :
    va_Run p l e room_1 s m args below meth c H locs cells slots 0 0 (F0 m pc ls st0) rest (Qc (Value.ref a :: As).toArray) (fr G) := by
  obtain ⟨hx, hb, hml, hown, -, -, -, -, -, hE⟩ := E
  obtain ⟨⟨c1, c2, c3⟩, c4, c5, c6, c7, c8⟩ := cw
  refine va_runV (Ts := []) (own := R_L) (n := n) ⟨hx, hb, hml, hown, fun _ h => nomatch h⟩ hM ⟨⟨hR.1, hR.2.1, hR.2.2.1, hR.2.2.2, ?_, List.mem_cons_self, c8 _ _ (State.WarmedH.refl s), c7, ⟨c1, c2⟩, lk_len c3, c4⟩, c5, c6⟩ ⟨iw_blind, hrv, fun U hU hw => ⟨rfl, iw_of hE hW U hU hw⟩⟩ rfl hn hsz hst (lv_room (Nat.le_of_ble_eq_true hw8)) hdg ⟨hcs.1, hcs.2⟩
  intro w hw a' U hU
  rw [List.mem_singleton.mp hw]
  exact c8 a' U hU
theorem yLV_i {Q1 : Int32 → St → Prop} (E : EnL p l s m meth c args b L xs G) (hM : Cti l y cc' nL' ret' rm G (.ref a :: As) z Q1) (cw : LkV s args R_L C index y cc' nL' ret' n) (hrv : ∃ cellB : Cell, H[a]? = some cellB ∧ cellB.vm.isStatics = false ∧ s.vm.findClass C = some cellB.cls) (hR : rm.cells = 0 ∧ rm.slots = 0 ∧ rm.frames + 1 ≤ 11 ∧ 8 + (nL' + 11) + rm.locals ≤ 396) (hcs : cells ≤ 1097 ∧ slots ≤ 24514) (hW : Wd G z s.heap H locs) (hsz : ls.size = 8) (hn : As.length = n) (hst : st0 = As.reverse ++ .ref a :: rest) (hw8 : Nat.ble ((rest.map fun v => v.category).sum) 8 = true) (hdg : decode code pc = .ok (.invokevirtual index, 3))
    (kk : ∀ (r : Int32) (z' : St) (H : Heap) (locs : List Loc), Q1 r z' → Wd G z' s.heap H locs → W p l e room_1 s m args below meth c H locs cells slots Qg (F0 m (pc + 3) ls (.int r :: rest))) : W p l e room_1 s m args below meth c H locs cells slots Qg (F0 m pc ls st0) :=
  va_calli (yLV E hM cw hrv hR hcs hW hsz hn hst hw8 hdg) hW.2.2.1 (fun _ _ h => h) (fun _ h => h) (fun r u t H1 locs1 ht _ hq hB _ _ hS => kk r u H1 locs1 hq ⟨by rw [← ht]; exact hB.1, hB.2, hS, hW.2.2.2⟩)
theorem yLV_l {Q1 : Int64 → St → Prop} (E : EnL p l s m meth c args b L xs G) (hM : Ctl l y cc' nL' ret' rm G (.ref a :: As) z Q1) (cw : LkV s args R_L C index y cc' nL' ret' n) (hrv : ∃ cellB : Cell, H[a]? = some cellB ∧ cellB.vm.isStatics = false ∧ s.vm.findClass C = some cellB.cls) (hR : rm.cells = 0 ∧ rm.slots = 0 ∧ rm.frames + 1 ≤ 11 ∧ 8 + (nL' + 11) + rm.locals ≤ 396) (hcs : cells ≤ 1097 ∧ slots ≤ 24514) (hW : Wd G z s.heap H locs) (hsz : ls.size = 8) (hn : As.length = n) (hst : st0 = As.reverse ++ .ref a :: rest) (hw8 : Nat.ble ((rest.map fun v => v.category).sum) 8 = true) (hdg : decode code pc = .ok (.invokevirtual index, 3))
    (kk : ∀ (r : Int64) (z' : St) (H : Heap) (locs : List Loc), Q1 r z' → Wd G z' s.heap H locs → W p l e room_1 s m args below meth c H locs cells slots Qg (F0 m (pc + 3) ls (.long r :: rest))) : W p l e room_1 s m args below meth c H locs cells slots Qg (F0 m pc ls st0) :=
  va_calll (yLV E hM cw hrv hR hcs hW hsz hn hst hw8 hdg) hW.2.2.1 (fun _ _ h => h) (fun _ h => h) (fun r u t H1 locs1 ht _ hq hB _ _ hS => kk r u H1 locs1 hq ⟨by rw [← ht]; exact hB.1, hB.2, hS, hW.2.2.2⟩)
theorem yLV_v {Q1 : St → Prop} (E : EnL p l s m meth c args b L xs G) (hM : Ctv l y cc' nL' ret' rm G (.ref a :: As) z Q1) (cw : LkV s args R_L C index y cc' nL' ret' n) (hrv : ∃ cellB : Cell, H[a]? = some cellB ∧ cellB.vm.isStatics = false ∧ s.vm.findClass C = some cellB.cls) (hR : rm.cells = 0 ∧ rm.slots = 0 ∧ rm.frames + 1 ≤ 11 ∧ 8 + (nL' + 11) + rm.locals ≤ 396) (hcs : cells ≤ 1097 ∧ slots ≤ 24514) (hW : Wd G z s.heap H locs) (hsz : ls.size = 8) (hn : As.length = n) (hst : st0 = As.reverse ++ .ref a :: rest) (hw8 : Nat.ble ((rest.map fun v => v.category).sum) 8 = true) (hdg : decode code pc = .ok (.invokevirtual index, 3))
    (kk : ∀ (z' : St) (H : Heap) (locs : List Loc), Q1 z' → Wd G z' s.heap H locs → W p l e room_1 s m args below meth c H locs cells slots Qg (F0 m (pc + 3) ls rest)) : W p l e room_1 s m args below meth c H locs cells slots Qg (F0 m pc ls st0) :=
  va_callv (yLV E hM cw hrv hR hcs hW hsz hn hst hw8 hdg) hW.2.2.1 (fun _ _ h => h) (fun _ h => h) (fun u t H1 locs1 ht _ hq hB _ _ hS => kk u H1 locs1 hq ⟨by rw [← ht]; exact hB.1, hB.2, hS, hW.2.2.2⟩)
theorem yLS {Q1 : Int32 → St → Prop} (E : EnL p l s m meth c args b L xs G) (hM : CtiW l y cc' nL' ret' cl rm G As z Q1) (cw : LkW s args R_L index y cc' nL' ret' cl n) (hR : rm.cells = 1 ∧ rm.slots = 6 ∧ rm.frames + 1 ≤ 11 ∧ 8 + (nL' + 11) + rm.locals ≤ 396) (hcs : cells + 1 ≤ 1097 ∧ slots + 6 ≤ 24514) (hW : Wd G z s.heap H locs) (hsz : ls.size = 8) (hn : As.length = n) (hst : st0 = As.reverse ++ rest) (hw8 : Nat.ble ((rest.map fun v => v.category).sum) 8 = true) (hdg : decode code pc = .ok (.invokestatic index, 3))
    (kk : ∀ (r : Int32) (z' : St) (H : Heap) (locs : List Loc), Q1 r z' → Wd G z' s.heap H locs → W p l e room_1 s m args below meth c H locs (cells + 1) (slots + 6) Qg (F0 m (pc + 3) ls (.int r :: rest))) : W p l e room_1 s m args below meth c H locs cells slots Qg (F0 m pc ls st0) := by
  obtain ⟨hx, hb, hml, hown, -, -, -, -, -, hE⟩ := E
  obtain ⟨⟨c1, c2, c3⟩, c4, c5, c7, c8⟩ := cw
  have hws : ∀ w ∈ [Cond.codeWith y cc' nL' ret' (cl.map cl4)], ∀ (a' : Array Value) (U : State), s.WarmedH U.vm → w.before a' U = true := by
    intro w hw a' U hU
    rw [List.mem_singleton.mp hw]
    exact c8 a' U hU
  have hK : Back l room_1 p e below s args y 3 8 (PreOf room_1 1 6 (va_Pc As (IW l G z))) (PostOf (QiR Q1 G) 1 6 (fr G)) := va_backW (hh := cl.map cl4) (bytes := cc') (maxL := nL') (ret := ret') hM iw_blind hR.1 hR.2.1 hR.2.2.1 hR.2.2.2 hws List.mem_cons_self (fun a' U hU => wk_at hU rfl c7)
  have run : va_Run p l e room_1 s m args below meth c H locs cells slots 1 6 (F0 m pc ls st0) rest (QiR Q1 G As.toArray) (fr G) := by
    intro T hT X
    obtain ⟨mk, methM, cM, hnamed, hmethM, -, -, -, -, -, -, hsigM⟩ := Cond.codeWith_spec (c8 args s (State.WarmedH.refl s))
    have hstatic : methM.isStatic = true := Cond.static_spec hnamed hmethM c5
    obtain ⟨kP, hkP, -⟩ := className_of_methodNamed hnamed
    have hkPi : kP.init = .initialized := Cond.initialized_spec (findClass_of_methodNamed hnamed) hkP c7
    obtain ⟨vm₁, X₁, hstep₁⟩ := X.invokestatic hx hown c4 hnamed hmethM hstatic hkP hkPi ⟨c1, c2⟩ (g := F0 m pc ls st0) rfl (argsL := As) (rest := rest) (hn.trans (lk_len c3 _ hsigM)) hst (by rw [hb]; exact hdg)
    obtain ⟨v, ⟨U', l2, k2, s2⟩, X', ⟨g', mk', t, L', e1, e2, hq, h1, hL, h2, h3⟩, hsteps⟩ := hK m meth c ⟨T.setVm vm₁, locs, cells, slots⟩ (F0 m pc ls rest) (.invokestatic index) mk As.toArray X₁ rfl (hsz.trans hml.symm) (by rw [hb]; exact hdg) (lv_room (Nat.le_of_ble_eq_true hw8)) (X₁.named hnamed) ⟨hcs.1, hcs.2, ⟨rfl, iw_of hE hW (T.setVm vm₁) hT X₁.warmed⟩⟩
    dsimp only [Pt.U, Pt.locs, Pt.cells, Pt.slots] at X' e1 e2 h1 h2 h3 hsteps
    subst h1; subst h2; subst h3
    exact ⟨v, (T.setVm vm₁).calling g' mk' As.toArray, t, U', L', hT, X', hL, e1, e2, hq, fun tg h => hstep₁ _ fun acts => by rw [doInvoke_state]; exact hsteps.trans h⟩
  exact va_calli run hW.2.2.1 (fun _ _ h => h) (fun _ h => h) (fun r u t H1 locs1 ht _ hq hB _ _ hS => kk r u H1 locs1 hq ⟨by rw [← ht]; exact hB.1, hB.2, hS, hW.2.2.2⟩)
end Law40
