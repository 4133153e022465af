/-! Rows over the world: a method's surroundings, contracts and their beginning, reads, writes, returns, calls, throws. -/
abbrev En (p : Program) (l : Launch) (s : State) (m : MethodId) (meth : Method) (c : Code) (args : Array Value) (cc : ByteArray) (nL : Nat) (own : String) (ret : Option FieldType) (G : GG) : Prop :=
  p.tables.exec = Jvm.exec ∧ c.code = cc ∧ c.maxLocals = nL ∧ s.vm.findClass own = some m.cls ∧ meth.sig.returnType = ret ∧ meth.locks = false ∧ c.exceptionTable.isEmpty = true ∧ KK l G s
/-- what a contract asks of the state -/
def IW (l : Launch) (G : GG) (z : St) (U : State) : Prop := OW G z U ∧ ba G ≤ U.heap.size ∧ KK l G U
def Ctv (l : Launch) (y : MethodName) (cc : ByteArray) (nL : Nat) (ret : Option FieldType) (rm : Room) (G : GG) (As : List Value) (z : St) (Q : St → Prop) : Prop := Met l y [Cond.code y cc nL ret] rm (va_Pc As (IW l G z)) (QvR Q G) 0 0 (fr G)
def Cti (l : Launch) (y : MethodName) (cc : ByteArray) (nL : Nat) (ret : Option FieldType) (rm : Room) (G : GG) (As : List Value) (z : St) (Q : Int32 → St → Prop) : Prop := Met l y [Cond.code y cc nL ret] rm (va_Pc As (IW l G z)) (QiR Q G) 0 0 (fr G)
def Ctl (l : Launch) (y : MethodName) (cc : ByteArray) (nL : Nat) (ret : Option FieldType) (rm : Room) (G : GG) (As : List Value) (z : St) (Q : Int64 → St → Prop) : Prop := Met l y [Cond.code y cc nL ret] rm (va_Pc As (IW l G z)) (QlR Q G) 0 0 (fr G)
/-- the end by a throw: an exception of the k-th class, the world as z says -/
def QT (X : Nat → St → Prop) (G : GG) (st : State) (o : Outcome) (t : State) : Prop := ∃ (a k : Nat) (z : St) (ce : Cell), o = .threw a ∧ X k z ∧ OW G z t ∧ t.heap[a]? = some ce ∧ ce.vm = .none ∧ (∃ v : Vm, st.WarmedH v ∧ v.findClass (xcn k) = some ce.cls)
def QvX (Q : St → Prop) (X : Nat → St → Prop) (G : GG) : Array Value → State → Outcome → State → Prop := fun a st o t => QvR Q G a st o t ∨ (QT X G st o t ∧ va_F (fr G) st t)
def QiX (Q : Int32 → St → Prop) (X : Nat → St → Prop) (G : GG) : Array Value → State → Outcome → State → Prop := fun a st o t => QiR Q G a st o t ∨ (QT X G st o t ∧ va_F (fr G) st t)
def QlX (Q : Int64 → St → Prop) (X : Nat → St → Prop) (G : GG) : Array Value → State → Outcome → State → Prop := fun a st o t => QlR Q G a st o t ∨ (QT X G st o t ∧ va_F (fr G) st t)
def CtvX (l : Launch) (y : MethodName) (cc : ByteArray) (nL : Nat) (ret : Option FieldType) (rm : Room) (G : GG) (As : List Value) (z : St) (Q : St → Prop) (X : Nat → St → Prop) : Prop := MetX l y [Cond.code y cc nL ret] rm (va_Pc As (IW l G z)) (QvX Q X G) (fr G)
def CtiX (l : Launch) (y : MethodName) (cc : ByteArray) (nL : Nat) (ret : Option FieldType) (rm : Room) (G : GG) (As : List Value) (z : St) (Q : Int32 → St → Prop) (X : Nat → St → Prop) : Prop := MetX l y [Cond.code y cc nL ret] rm (va_Pc As (IW l G z)) (QiX Q X G) (fr G)
def CtlX (l : Launch) (y : MethodName) (cc : ByteArray) (nL : Nat) (ret : Option FieldType) (rm : Room) (G : GG) (As : List Value) (z : St) (Q : Int64 → St → Prop) (X : Nat → St → Prop) : Prop := MetX l y [Cond.code y cc nL ret] rm (va_Pc As (IW l G z)) (QlX Q X G) (fr G)
section Opn
variable {l : Launch} {y : MethodName} {cc : ByteArray} {nL : Nat} {ret : Option FieldType} {rm : Room} {G : GG} {As : List Value} {z : St} {own : String}
theorem op_E {p : Program} {e : Env} {s : State} {m : MethodId} {args : Array Value} {below : List Frame} {meth : Method} {c : Code} {s₁ : State} (B : BodyLoose p l y (headSpec [Cond.code y cc nL ret] rm) cc nL ret e s m args below meth c s₁) (hml : c.maxLocals = nL) (hown : y.cls = own) (hE : KK l G s) : En p l s m meth c args cc nL own ret G := by
  have hts := atoms_spec (ws := [Cond.code y cc nL ret]) B.pre
  obtain ⟨meth', c', q1, q2, q3, q4, q5, q6, q7, q8⟩ := Cond.code_spec B.named (hts _ List.mem_cons_self)
  cases Option.some.inj (q1.symm.trans B.method)
  cases Option.some.inj (q2.symm.trans (Stand.of_body B).code)
  exact ⟨B.exec, B.bytes, hml, by rw [← hown]; exact findClass_of_methodNamed B.named, B.returns, B.notSynchronized, q7, hE⟩
theorem Ctv.op {Q : St → Prop} (hy : plainName y.cls = true) (hown : y.cls = own) (hlen : (lg_sl As).length ≤ nL)
    (body : ∀ (p : Program) (e : Env) (s : State) (m : MethodId) (args : Array Value) (below : List Frame) (meth : Method) (c : Code) (ls : Array Slot), En p l s m meth c args cc nL own ret G → lv_has ls nL (lv_args 0 As) → Wd G z s.heap s.heap [] → W p l e rm s m args below meth c s.heap [] 0 0 (MQ below (QvR Q G) args s 0 0 (fr G)) (F0 m 0 ls [])) : Ctv l y cc nL ret rm G As z Q := by
  refine Met.ofW (cc := cc) (maxL := nL) (ret := ret) hy rfl ?_
  intro p e s m args below meth c s₁ B hml hv
  obtain ⟨rfl, hO, hba, hE⟩ := hv
  rw [lg_entry_eq]
  exact body p e s m _ below meth c _ (op_E B hml hown hE) (lv_entry As hlen) ⟨hO.1, hO.2, va_S.rf, hba⟩
theorem Cti.op {Q : Int32 → St → Prop} (hy : plainName y.cls = true) (hown : y.cls = own) (hlen : (lg_sl As).length ≤ nL)
    (body : ∀ (p : Program) (e : Env) (s : State) (m : MethodId) (args : Array Value) (below : List Frame) (meth : Method) (c : Code) (ls : Array Slot), En p l s m meth c args cc nL own ret G → lv_has ls nL (lv_args 0 As) → Wd G z s.heap s.heap [] → W p l e rm s m args below meth c s.heap [] 0 0 (MQ below (QiR Q G) args s 0 0 (fr G)) (F0 m 0 ls [])) : Cti l y cc nL ret rm G As z Q := by
  refine Met.ofW (cc := cc) (maxL := nL) (ret := ret) hy rfl ?_
  intro p e s m args below meth c s₁ B hml hv
  obtain ⟨rfl, hO, hba, hE⟩ := hv
  rw [lg_entry_eq]
  exact body p e s m _ below meth c _ (op_E B hml hown hE) (lv_entry As hlen) ⟨hO.1, hO.2, va_S.rf, hba⟩
theorem Ctl.op {Q : Int64 → St → Prop} (hy : plainName y.cls = true) (hown : y.cls = own) (hlen : (lg_sl As).length ≤ nL)
    (body : ∀ (p : Program) (e : Env) (s : State) (m : MethodId) (args : Array Value) (below : List Frame) (meth : Method) (c : Code) (ls : Array Slot), En p l s m meth c args cc nL own ret G → lv_has ls nL (lv_args 0 As) → Wd G z s.heap s.heap [] → W p l e rm s m args below meth c s.heap [] 0 0 (MQ below (QlR Q G) args s 0 0 (fr G)) (F0 m 0 ls [])) : Ctl l y cc nL ret rm G As z Q := by
  refine Met.ofW (cc := cc) (maxL := nL) (ret := ret) hy rfl ?_
  intro p e s m args below meth c s₁ B hml hv
  obtain ⟨rfl, hO, hba, hE⟩ := hv
  rw [lg_entry_eq]
  exact body p e s m _ below meth c _ (op_E B hml hown hE) (lv_entry As hlen) ⟨hO.1, hO.2, va_S.rf, hba⟩
theorem op_X {Qc : Array Value → State → Outcome → State → Prop} (hy : plainName y.cls = true) (hown : y.cls = own) (hlen : (lg_sl As).length ≤ nL)
    (body : ∀ (p : Program) (e : Env) (s : State) (m : MethodId) (args : Array Value) (below : List Frame) (meth : Method) (c : Code) (ls : Array Slot), En p l s m meth c args cc nL own ret G → lv_has ls nL (lv_args 0 As) → Wd G z s.heap s.heap [] → W p l e rm s m args below meth c s.heap [] 0 0 (MQX below Qc args s (fr G)) (F0 m 0 ls [])) : MetX l y [Cond.code y cc nL ret] rm (va_Pc As (IW l G z)) Qc (fr G) := by
  refine MetX.ofW (cc := cc) (maxL := nL) (ret := ret) hy ?_ ?_
  · intro args s m h hn
    obtain ⟨meth, c, h1, h2, h3, h4, h5, h6, -, -⟩ := Cond.code_spec hn (atoms_spec (ws := [Cond.code y cc nL ret]) h _ List.mem_cons_self)
    exact ⟨meth, c, h1, h2, h3, h4, h5, h6⟩
  · intro p e s m args below meth c s₁ B hml hv
    obtain ⟨rfl, hO, hba, hE⟩ := hv
    rw [lg_entry_eq]
    exact body p e s m _ below meth c _ (op_E B hml hown hE) (lv_entry As hlen) ⟨hO.1, hO.2, va_S.rf, hba⟩
theorem CtvX.op {Q : St → Prop} {X : Nat → St → Prop} (hy : plainName y.cls = true) (hown : y.cls = own) (hlen : (lg_sl As).length ≤ nL)
    (body : ∀ (p : Program) (e : Env) (s : State) (m : MethodId) (args : Array Value) (below : List Frame) (meth : Method) (c : Code) (ls : Array Slot), En p l s m meth c args cc nL own ret G → lv_has ls nL (lv_args 0 As) → Wd G z s.heap s.heap [] → W p l e rm s m args below meth c s.heap [] 0 0 (MQX below (QvX Q X G) args s (fr G)) (F0 m 0 ls [])) : CtvX l y cc nL ret rm G As z Q X := op_X hy hown hlen body
theorem CtiX.op {Q : Int32 → St → Prop} {X : Nat → St → Prop} (hy : plainName y.cls = true) (hown : y.cls = own) (hlen : (lg_sl As).length ≤ nL)
    (body : ∀ (p : Program) (e : Env) (s : State) (m : MethodId) (args : Array Value) (below : List Frame) (meth : Method) (c : Code) (ls : Array Slot), En p l s m meth c args cc nL own ret G → lv_has ls nL (lv_args 0 As) → Wd G z s.heap s.heap [] → W p l e rm s m args below meth c s.heap [] 0 0 (MQX below (QiX Q X G) args s (fr G)) (F0 m 0 ls [])) : CtiX l y cc nL ret rm G As z Q X := op_X hy hown hlen body
theorem CtlX.op {Q : Int64 → St → Prop} {X : Nat → St → Prop} (hy : plainName y.cls = true) (hown : y.cls = own) (hlen : (lg_sl As).length ≤ nL)
    (body : ∀ (p : Program) (e : Env) (s : State) (m : MethodId) (args : Array Value) (below : List Frame) (meth : Method) (c : Code) (ls : Array Slot), En p l s m meth c args cc nL own ret G → lv_has ls nL (lv_args 0 As) → Wd G z s.heap s.heap [] → W p l e rm s m args below meth c s.heap [] 0 0 (MQX below (QlX Q X G) args s (fr G)) (F0 m 0 ls [])) : CtlX l y cc nL ret rm G As z Q X := op_X hy hown hlen body
end Opn
section Rows
variable {p : Program} {l : Launch} {e : Env} {R : Room} {s : State} {m : MethodId} {args : Array Value} {below : List Frame} {meth : Method} {c : Code} {H : Heap} {locs : List Loc} {cells slots : Nat} {Qg : State → Prop} {G : GG} {z : St} {cc : ByteArray} {pc : Nat} {ls : Array Slot} {rest : List Value}
-- the sign of a comparison of longs
theorem lgc_eqt {x y : Int64} (h : lg_cmp x y = 0) : x = y := (lg_cmp_eq x y).mp h
theorem lgc_eqf {x y : Int64} (h : ¬ lg_cmp x y = 0) : ¬ x = y := fun g => h ((lg_cmp_eq x y).mpr g)
theorem lgc_net {x y : Int64} (h : ¬ lg_cmp x y = 0) : ¬ x = y := fun g => h ((lg_cmp_eq x y).mpr g)
theorem lgc_nef {x y : Int64} (h : lg_cmp x y = 0) : x = y := (lg_cmp_eq x y).mp h
theorem lgc_ltt {x y : Int64} (h : lg_cmp x y < 0) : x < y := (lg_cmp_lt x y).mp h
theorem lgc_ltf {x y : Int64} (h : ¬ lg_cmp x y < 0) : ¬ x < y := fun g => h ((lg_cmp_lt x y).mpr g)
theorem lgc_gtt {x y : Int64} (h : 0 < lg_cmp x y) : y < x := (lg_cmp_gt x y).mp h
theorem lgc_gtf {x y : Int64} (h : ¬ 0 < lg_cmp x y) : ¬ y < x := fun g => h ((lg_cmp_gt x y).mpr g)
theorem lgc_get {x y : Int64} (h : 0 ≤ lg_cmp x y) : y ≤ x := (lg_cmp_ge x y).mp h
theorem lgc_gef {x y : Int64} (h : ¬ 0 ≤ lg_cmp x y) : ¬ y ≤ x := fun g => h ((lg_cmp_ge x y).mpr g)
theorem lgc_let {x y : Int64} (h : lg_cmp x y ≤ 0) : x ≤ y := (lg_cmp_le x y).mp h
theorem lgc_lef {x y : Int64} (h : ¬ lg_cmp x y ≤ 0) : ¬ x ≤ y := fun g => h ((lg_cmp_le x y).mpr g)
theorem ii_p1 {x v : Int32} (h : v = x + 1) : x + Int32.ofInt 1 = v := h.symm
theorem ii_m1 {x v : Int32} (h : v = x - 1) : x + Int32.ofInt (-1) = v := by
  rw [h, Int32.sub_eq_add_neg]; rfl
theorem ii_p5 {x v : Int32} (h : v = x + 5) : x + Int32.ofInt 5 = v := h.symm
theorem zb_nar {x : Int32} (h : zb x) : narrow .boolean (.int x) = .int x := by rcases h with rfl | rfl <;> decide
theorem zb_fit {x : Int32} (h : zb x) : fits .boolean (.int x) = true := by rcases h with rfl | rfl <;> decide
theorem zb_vp {x : Int32} (h : zb x) : vp_nar .boolean x = x := by rcases h with rfl | rfl <;> decide
theorem zb_0 : zb 0 := Or.inl rfl
theorem zb_1 : zb 1 := Or.inr rfl
-- reads and writes, by cell and place
theorem yget (hx : p.tables.exec = Jvm.exec) (hb : c.code = cc) {own C : String} (hown : s.vm.findClass own = some m.cls) (hE : KK l G s) (hW : Wd G z s.heap H locs) {cN k ci index n : Nat} {T : u_T} {fs : List Value} {v : Value} (hc : cN < 50) (he : ce G cN (z.1 cN) (z.2 cN) = .inr (ci, fs)) (hcl : vcl[ci]? = some (C, T, n)) (hin : ∀ w ∈ u_ws C T n, w ∈ lyt) (hk : k < n)
    (hlink : (Cond.fieldLink own index (T k).1 (T k).2.1 (T k).2.2.1).before args s = true) (hv : fs[k]? = some v) (hdg : decode cc pc = .ok (.getfield index, 3)) (kk : W p l e R s m args below meth c H locs cells slots Qg (F0 m (pc + 3) ls (v :: rest))) : W p l e R s m args below meth c H locs cells slots Qg (F0 m pc ls (.ref (ha G cN) :: rest)) :=
  va_get hx hb hE.l hin hown hE.1 hW.1 cN (by rw [wcs_at G z hc, he]) hcl k hk hlink (fun _ h => h) hv hdg kk
theorem ygetN (hx : p.tables.exec = Jvm.exec) (hb : c.code = cc) {own C host : String} (hown : s.vm.findClass own = some m.cls) (hE : KK l G s) (hW : Wd G z s.heap H locs) {cN k ci index n : Nat} {T : u_T} {fs : List Value} {v : Value} (hc : cN < 50) (he : ce G cN (z.1 cN) (z.2 cN) = .inr (ci, fs)) (hcl : vcl[ci]? = some (C, T, n)) (hin : ∀ w ∈ u_ws C T n, w ∈ lyt) (hk : k < n)
    (hlink : (Cond.fieldLinkNest own index (T k).1 (T k).2.1 (T k).2.2.1 host).before args s = true) (hv : fs[k]? = some v) (hdg : decode cc pc = .ok (.getfield index, 3)) (kk : W p l e R s m args below meth c H locs cells slots Qg (F0 m (pc + 3) ls (v :: rest))) : W p l e R s m args below meth c H locs cells slots Qg (F0 m pc ls (.ref (ha G cN) :: rest)) :=
  va_getN hx hb hE.l hin hown hE.1 hW.1 cN (by rw [wcs_at G z hc, he]) hcl k hk hlink (fun _ h => h) hv hdg kk
/-- the world behind a write -/
theorem wd_set {z' : St} {H1 : Heap} {locs1 : List Loc} {cN : Nat} {e0 : va_E} (hc : cN < 50) (hW : Wd G z s.heap H locs) (ho : ∀ a, a ≠ cN → z'.1 a = z.1 a ∧ z'.2 a = z.2 a) (he : ce G cN (z'.1 cN) (z'.2 cN) = e0) (hP : va_P G.1 vcl ((wcs G z).set cN (ha G cN, e0)) H1) (hD : va_D (fr G) ((wcs G z).set cN (ha G cN, e0))) (hS : va_S (fr G) s.heap H1 locs1) : Wd G z' s.heap H1 locs1 := by
  have h := wcs_set G z z' hc ho
  rw [he] at h
  rw [h] at hP hD
  exact ⟨hP, hD, hS, hW.2.2.2⟩
theorem yput (hx : p.tables.exec = Jvm.exec) (hb : c.code = cc) {own C : String} (hown : s.vm.findClass own = some m.cls) (hE : KK l G s) (hW : Wd G z s.heap H locs) {cN k ci index n : Nat} {T : u_T} {fs : List Value} {v : Value} {ty : FieldType} (ty0 : Nat → FieldType) (hty : ∀ k, k < n → parseFieldDescriptor (T k).2.2.1 = some (ty0 k)) (hnm : ∀ a, a < n → ∀ b, b < n → a ≠ b → (T a).2.1 ≠ (T b).2.1) (hc : cN < 50) (he : ce G cN (z.1 cN) (z.2 cN) = .inr (ci, fs)) (hcl : vcl[ci]? = some (C, T, n)) (hin : ∀ w ∈ u_ws C T n, w ∈ lyt) (hk : k < n)
    (hfin : (T k).2.2.2 = false) (hd : parseFieldDescriptor (T k).2.2.1 = some ty) (hn : narrow ty v = v) (hfit : fits ty v = true) (hl : k < fs.length) (z' : St) (ho : ∀ a, a ≠ cN → z'.1 a = z.1 a ∧ z'.2 a = z.2 a) (he' : ce G cN (z'.1 cN) (z'.2 cN) = .inr (ci, fs.set k v))
    (hlink : (Cond.fieldLink own index (T k).1 (T k).2.1 (T k).2.2.1).before args s = true) (hdg : decode cc pc = .ok (.putfield index, 3)) (kk : ∀ (H : Heap) (locs : List Loc), Wd G z' s.heap H locs → W p l e R s m args below meth c H locs cells slots Qg (F0 m (pc + 3) ls rest)) : W p l e R s m args below meth c H locs cells slots Qg (F0 m pc ls (v :: .ref (ha G cN) :: rest)) :=
  va_put hx hb hE.l hin ty0 hty hnm hown hE.1 hW.1 hW.2.1 hW.2.2.1 cN (by rw [wcs_at G z hc, he]) hcl k hk hlink (fun _ h => h) hfin hd hn hfit hl hdg (fun H1 locs1 hP hD hS => kk H1 locs1 (wd_set hc hW ho he' hP hD hS))
theorem yputN (hx : p.tables.exec = Jvm.exec) (hb : c.code = cc) {own C host : String} (hown : s.vm.findClass own = some m.cls) (hE : KK l G s) (hW : Wd G z s.heap H locs) {cN k ci index n : Nat} {T : u_T} {fs : List Value} {v : Value} {ty : FieldType} (ty0 : Nat → FieldType) (hty : ∀ k, k < n → parseFieldDescriptor (T k).2.2.1 = some (ty0 k)) (hnm : ∀ a, a < n → ∀ b, b < n → a ≠ b → (T a).2.1 ≠ (T b).2.1) (hc : cN < 50) (he : ce G cN (z.1 cN) (z.2 cN) = .inr (ci, fs)) (hcl : vcl[ci]? = some (C, T, n)) (hin : ∀ w ∈ u_ws C T n, w ∈ lyt) (hk : k < n)
    (hfin : (T k).2.2.2 = false) (hd : parseFieldDescriptor (T k).2.2.1 = some ty) (hn : narrow ty v = v) (hfit : fits ty v = true) (hl : k < fs.length) (z' : St) (ho : ∀ a, a ≠ cN → z'.1 a = z.1 a ∧ z'.2 a = z.2 a) (he' : ce G cN (z'.1 cN) (z'.2 cN) = .inr (ci, fs.set k v))
    (hlink : (Cond.fieldLinkNest own index (T k).1 (T k).2.1 (T k).2.2.1 host).before args s = true) (hdg : decode cc pc = .ok (.putfield index, 3)) (kk : ∀ (H : Heap) (locs : List Loc), Wd G z' s.heap H locs → W p l e R s m args below meth c H locs cells slots Qg (F0 m (pc + 3) ls rest)) : W p l e R s m args below meth c H locs cells slots Qg (F0 m pc ls (v :: .ref (ha G cN) :: rest)) :=
  va_putN hx hb hE.l hin ty0 hty hnm hown hE.1 hW.1 hW.2.1 hW.2.2.1 cN (by rw [wcs_at G z hc, he]) hcl k hk hlink (fun _ h => h) hfin hd hn hfit hl hdg (fun H1 locs1 hP hD hS => kk H1 locs1 (wd_set hc hW ho he' hP hD hS))
theorem yaI (hx : p.tables.exec = Jvm.exec) (hb : c.code = cc) (hE : KK l G s) (hW : Wd G z s.heap H locs) {cN n : Nat} {i : Int32} (hc : cN < 50) (he : ce G cN (z.1 cN) (z.2 cN) = .inl (G.2.1 0, n, .inl (z.1 cN))) (hi : vp_in i n) (hdg : decode cc pc = .ok (.iaload, 1)) (kk : W p l e R s m args below meth c H locs cells slots Qg (F0 m (pc + 1) ls (.int (z.1 cN i.toNatClampNeg) :: rest))) : W p l e R s m args below meth c H locs cells slots Qg (F0 m pc ls (.int i :: .ref (ha G cN) :: rest)) :=
  va_iald hx hb hE.1 hW.1 cN 0 (by rw [wcs_at G z hc, he]) rfl hi hdg kk
theorem yaZ (hx : p.tables.exec = Jvm.exec) (hb : c.code = cc) (hE : KK l G s) (hW : Wd G z s.heap H locs) {cN n : Nat} {i : Int32} (hc : cN < 50) (he : ce G cN (z.1 cN) (z.2 cN) = .inl (G.2.1 2, n, .inl (z.1 cN))) (hi : vp_in i n) (hdg : decode cc pc = .ok (.baload, 1)) (kk : W p l e R s m args below meth c H locs cells slots Qg (F0 m (pc + 1) ls (.int (z.1 cN i.toNatClampNeg) :: rest))) : W p l e R s m args below meth c H locs cells slots Qg (F0 m pc ls (.int i :: .ref (ha G cN) :: rest)) :=
  va_zald hx hb hE.1 hW.1 cN 2 (by rw [wcs_at G z hc, he]) rfl hi hdg kk
theorem yaJ (hx : p.tables.exec = Jvm.exec) (hb : c.code = cc) (hE : KK l G s) (hW : Wd G z s.heap H locs) {cN n : Nat} {i : Int32} (hc : cN < 50) (he : ce G cN (z.1 cN) (z.2 cN) = .inl (G.2.1 1, n, .inr (.inl (z.2 cN)))) (hi : vp_in i n) (hdg : decode cc pc = .ok (.laload, 1)) (kk : W p l e R s m args below meth c H locs cells slots Qg (F0 m (pc + 1) ls (.long (z.2 cN i.toNatClampNeg) :: rest))) : W p l e R s m args below meth c H locs cells slots Qg (F0 m pc ls (.int i :: .ref (ha G cN) :: rest)) :=
  va_lald hx hb hE.1 hW.1 cN 1 (by rw [wcs_at G z hc, he]) rfl hi hdg kk
theorem ysI (hx : p.tables.exec = Jvm.exec) (hb : c.code = cc) (hE : KK l G s) (hW : Wd G z s.heap H locs) {cN n : Nat} {i v : Int32} (hc : cN < 50) (he : ∀ f g, ce G cN f g = .inl (G.2.1 0, n, .inl f)) (hi : vp_in i n) (hdg : decode cc pc = .ok (.iastore, 1)) (kk : ∀ (z' : St) (H : Heap) (locs : List Loc), z' = wI z cN i.toNatClampNeg v → Wd G z' s.heap H locs → W p l e R s m args below meth c H locs cells slots Qg (F0 m (pc + 1) ls rest)) : W p l e R s m args below meth c H locs cells slots Qg (F0 m pc ls (.int v :: .int i :: .ref (ha G cN) :: rest)) :=
  va_iast hx hb hE.1 hW.1 hW.2.1 hW.2.2.1 cN 0 (by rw [wcs_at G z hc, he]) rfl hi hdg (fun H1 locs1 hP hD hS => kk _ H1 locs1 rfl (wd_set hc hW (wI_off z cN _ v) (by rw [he, wI_at]) hP hD hS))
theorem ysZ (hx : p.tables.exec = Jvm.exec) (hb : c.code = cc) (hE : KK l G s) (hW : Wd G z s.heap H locs) {cN n : Nat} {i v : Int32} (hz : zb v) (hc : cN < 50) (he : ∀ f g, ce G cN f g = .inl (G.2.1 2, n, .inl f)) (hi : vp_in i n) (hdg : decode cc pc = .ok (.bastore, 1)) (kk : ∀ (z' : St) (H : Heap) (locs : List Loc), z' = wI z cN i.toNatClampNeg v → Wd G z' s.heap H locs → W p l e R s m args below meth c H locs cells slots Qg (F0 m (pc + 1) ls rest)) : W p l e R s m args below meth c H locs cells slots Qg (F0 m pc ls (.int v :: .int i :: .ref (ha G cN) :: rest)) :=
  va_zast hx hb hE.1 hW.1 hW.2.1 hW.2.2.1 cN 2 (by rw [wcs_at G z hc, he]) rfl hi hdg (fun H1 locs1 hP hD hS => kk _ H1 locs1 rfl (wd_set hc hW (wI_off z cN _ v) (by rw [he, wI_at, zb_vp hz]) hP hD hS))
theorem ysJ (hx : p.tables.exec = Jvm.exec) (hb : c.code = cc) (hE : KK l G s) (hW : Wd G z s.heap H locs) {cN n : Nat} {i : Int32} {v : Int64} (hc : cN < 50) (he : ∀ f g, ce G cN f g = .inl (G.2.1 1, n, .inr (.inl g))) (hi : vp_in i n) (hdg : decode cc pc = .ok (.lastore, 1)) (kk : ∀ (z' : St) (H : Heap) (locs : List Loc), z' = wL z cN i.toNatClampNeg v → Wd G z' s.heap H locs → W p l e R s m args below meth c H locs cells slots Qg (F0 m (pc + 1) ls rest)) : W p l e R s m args below meth c H locs cells slots Qg (F0 m pc ls (.long v :: .int i :: .ref (ha G cN) :: rest)) :=
  va_last hx hb hE.1 hW.1 hW.2.1 hW.2.2.1 cN 1 (by rw [wcs_at G z hc, he]) rfl hi hdg (fun H1 locs1 hP hD hS => kk _ H1 locs1 rfl (wd_set hc hW (wL_off z cN _ v) (by rw [he, wL_at]) hP hD hS))
theorem ylen (hx : p.tables.exec = Jvm.exec) (hb : c.code = cc) (hE : KK l G s) (hW : Wd G z s.heap H locs) {cN t0 : Nat} {cA : ClassId} {ty : FieldType} {x : vp_A} {v : Int32} (hc : cN < 50) (he : ce G cN (z.1 cN) (z.2 cN) = .inl (cA, x)) (ht : (vty G)[t0]? = some (cA, ty)) (hv : Int32.ofNat x.1 = v) (hdg : decode cc pc = .ok (.arraylength, 1)) (kk : W p l e R s m args below meth c H locs cells slots Qg (F0 m (pc + 1) ls (.int v :: rest))) : W p l e R s m args below meth c H locs cells slots Qg (F0 m pc ls (.ref (ha G cN) :: rest)) :=
  va_alen hx hb hE.1 hW.1 cN t0 (by rw [wcs_at G z hc, he]) ht hv hdg kk
-- returns
theorem yr_v {Q : St → Prop} (hx : p.tables.exec = Jvm.exec) (hb : c.code = cc) (hr : meth.sig.returnType = none) (hlk : meth.locks = false) (hW : Wd G z s.heap H locs) (hq : Q z) (hdg : decode cc pc = .ok (.return_, 1)) : W p l e R s m args below meth c H locs 0 0 (MQ below (QvR Q G) args s 0 0 (fr G)) (F0 m pc ls []) :=
  W.vret hx hb hr (fun t ht _ => ⟨⟨z, rfl, hq, hW.ow ht⟩, hW.2.2.1.F ht⟩) hW.2.2.1.2.2 hdg hlk
theorem yr_i {Q : Int32 → St → Prop} {v : Int32} (hx : p.tables.exec = Jvm.exec) (hb : c.code = cc) (hr : meth.sig.returnType = some .int) (hlk : meth.locks = false) (hW : Wd G z s.heap H locs) (hq : Q v z) (hdg : decode cc pc = .ok (.ireturn, 1)) : W p l e R s m args below meth c H locs 0 0 (MQ below (QiR Q G) args s 0 0 (fr G)) (F0 m pc ls [.int v]) :=
  W.iret hx hb hr (fun t ht _ => ⟨⟨v, z, rfl, hq, hW.ow ht⟩, hW.2.2.1.F ht⟩) hW.2.2.1.2.2 hdg hlk
theorem yr_z {Q : Int32 → St → Prop} {v : Int32} (hx : p.tables.exec = Jvm.exec) (hb : c.code = cc) (hr : meth.sig.returnType = some .boolean) (hlk : meth.locks = false) (hW : Wd G z s.heap H locs) (hz : zb v) (hq : Q v z) (hdg : decode cc pc = .ok (.ireturn, 1)) : W p l e R s m args below meth c H locs 0 0 (MQ below (QiR Q G) args s 0 0 (fr G)) (F0 m pc ls [.int v]) :=
  W.zret hx hb hr (zb_nar hz) (fun t ht _ => ⟨⟨v, z, rfl, hq, hW.ow ht⟩, hW.2.2.1.F ht⟩) hW.2.2.1.2.2 hdg hlk
theorem yr_l {Q : Int64 → St → Prop} {v : Int64} (hx : p.tables.exec = Jvm.exec) (hb : c.code = cc) (hr : meth.sig.returnType = some .long) (hlk : meth.locks = false) (hW : Wd G z s.heap H locs) (hq : Q v z) (hdg : decode cc pc = .ok (.lreturn, 1)) : W p l e R s m args below meth c H locs 0 0 (MQ below (QlR Q G) args s 0 0 (fr G)) (F0 m pc ls [.long v]) :=
  W.lret hx hb hr (fun t ht _ => ⟨⟨v, z, rfl, hq, hW.ow ht⟩, hW.2.2.1.F ht⟩) hW.2.2.1.2.2 hdg hlk
end Rows
