/-! The world of the law: the office, the reference and the answer's row, fifty cells at addresses that are variables; what they hold is a pair of functions (cell, place) ↦ number; which cell a field names never changes once the objects are made. -/
abbrev St : Type := (Nat → Nat → Int32) × (Nat → Nat → Int64)
def wI (z : St) (c k : Nat) (v : Int32) : St := (fun a b => if a = c then (if b = k then v else z.1 a b) else z.1 a b, z.2)
def wL (z : St) (c k : Nat) (v : Int64) : St := (z.1, fun a b => if a = c then (if b = k then v else z.2 a b) else z.2 a b)
def zb (x : Int32) : Prop := x = 0 ∨ x = 1
def mmaxI (x y : Int32) : Int32 := if x < y then y else x
def mminI (x y : Int32) : Int32 := if y < x then y else x
def mmaxL (x y : Int64) : Int64 := if y < x then x else y
def mminL (x y : Int64) : Int64 := if y < x then y else x
abbrev GG : Type := va_G × (Nat → ClassId) × (Nat → Nat) × Nat
def ha (G : GG) (c : Nat) : Nat := G.2.2.1 c
def ba (G : GG) : Nat := G.2.2.2
def fr (G : GG) : Nat → Prop := fun q => ba G ≤ q
abbrev vty (G : GG) : List (ClassId × FieldType) := [(G.2.1 0, .int), (G.2.1 1, .long), (G.2.1 2, .boolean)]
def ce (G : GG) (c : Nat) (f : Nat → Int32) (g : Nat → Int64) : va_E := match c with
  | 0 => .inr (0, [.ref (ha G 1), .ref (ha G 6), .ref (ha G 9), .ref (ha G 19), .ref (ha G 20), .ref (ha G 25), .ref (ha G 26), .ref (ha G 30), .int (f 8), .long (g 9), .int (f 10), .int (f 11)])
  | 1 => .inr (1, [.ref (ha G 2), .ref (ha G 3), .ref (ha G 4), .ref (ha G 5), .int (f 4), .int (f 5)])
  | 2 => .inl (G.2.1 0, 3, .inl f)
  | 3 => .inl (G.2.1 0, 40, .inl f)
  | 4 => .inl (G.2.1 0, 16, .inl f)
  | 5 => .inl (G.2.1 0, 16, .inl f)
  | 6 => .inr (2, [.ref (ha G 7), .ref (ha G 8)])
  | 7 => .inl (G.2.1 0, 12, .inl f)
  | 8 => .inl (G.2.1 0, 12, .inl f)
  | 9 => .inr (3, [.ref (ha G 1), .ref (ha G 10), .ref (ha G 11), .ref (ha G 12), .ref (ha G 13), .ref (ha G 14), .ref (ha G 15), .ref (ha G 16), .ref (ha G 17), .ref (ha G 18), .int (f 10), .int (f 11), .int (f 12)])
  | 10 => .inl (G.2.1 1, 1001, .inr (.inl g))
  | 11 => .inl (G.2.1 0, 1001, .inl f)
  | 12 => .inl (G.2.1 0, 1001, .inl f)
  | 13 => .inl (G.2.1 0, 1001, .inl f)
  | 14 => .inl (G.2.1 1, 1001, .inr (.inl g))
  | 15 => .inl (G.2.1 1, 1001, .inr (.inl g))
  | 16 => .inl (G.2.1 0, 2048, .inl f)
  | 17 => .inl (G.2.1 0, 17, .inl f)
  | 18 => .inl (G.2.1 0, 369, .inl f)
  | 19 => .inr (4, [.ref (ha G 1), .ref (ha G 9)])
  | 20 => .inr (5, [.ref (ha G 1), .ref (ha G 9), .ref (ha G 21), .ref (ha G 24), .int (f 4), .int (f 5)])
  | 21 => .inr (2, [.ref (ha G 22), .ref (ha G 23)])
  | 22 => .inl (G.2.1 0, 12, .inl f)
  | 23 => .inl (G.2.1 0, 12, .inl f)
  | 24 => .inl (G.2.1 0, 12, .inl f)
  | 25 => .inr (6, [.int (f 0), .int (f 1), .int (f 2), .long (g 3), .long (g 4), .int (f 5), .int (f 6), .long (g 7)])
  | 26 => .inr (7, [.ref (ha G 1), .ref (ha G 6), .ref (ha G 27), .ref (ha G 28), .ref (ha G 29), .int (f 5), .long (g 6), .long (g 7), .int (f 8)])
  | 27 => .inl (G.2.1 0, 8, .inl f)
  | 28 => .inl (G.2.1 0, 12, .inl f)
  | 29 => .inl (G.2.1 0, 40, .inl f)
  | 30 => .inl (G.2.1 0, 8, .inl f)
  | 31 => .inr (8, [.int (f 0), .int (f 1), .ref (ha G 32), .ref (ha G 33), .ref (ha G 34), .ref (ha G 35), .ref (ha G 36), .int (f 7), .int (f 8), .ref (ha G 37), .ref (ha G 38), .int (f 11), .int (f 12), .int (f 13), .ref (ha G 39), .ref (ha G 40), .ref (ha G 41), .ref (ha G 42), .ref (ha G 43), .int (f 19), .ref (ha G 44), .int (f 21), .ref (ha G 45), .int (f 23), .int (f 24), .int (f 25), .long (g 26), .long (g 27), .long (g 28), .int (f 29), .long (g 30), .ref (ha G 46), .ref (ha G 47), .ref (ha G 48), .int (f 34)])
  | 32 => .inl (G.2.1 0, 120, .inl f)
  | 33 => .inl (G.2.1 2, 40, .inl f)
  | 34 => .inl (G.2.1 0, 3, .inl f)
  | 35 => .inl (G.2.1 0, 12, .inl f)
  | 36 => .inl (G.2.1 0, 12, .inl f)
  | 37 => .inl (G.2.1 0, 17, .inl f)
  | 38 => .inl (G.2.1 0, 17, .inl f)
  | 39 => .inl (G.2.1 0, 18, .inl f)
  | 40 => .inl (G.2.1 1, 1010, .inr (.inl g))
  | 41 => .inl (G.2.1 1, 1010, .inr (.inl g))
  | 42 => .inl (G.2.1 0, 1010, .inl f)
  | 43 => .inl (G.2.1 0, 4096, .inl f)
  | 44 => .inl (G.2.1 0, 8, .inl f)
  | 45 => .inl (G.2.1 2, 40, .inl f)
  | 46 => .inl (G.2.1 0, 12, .inl f)
  | 47 => .inl (G.2.1 0, 12, .inl f)
  | 48 => .inl (G.2.1 0, 8, .inl f)
  | _ => .inl (G.2.1 1, 1, .inr (.inl g))
def wcs (G : GG) (z : St) : va_W := (List.range 50).map (fun c => (ha G c, ce G c (z.1 c) (z.2 c)))
theorem wcs_at (G : GG) (z : St) {c : Nat} (h : c < 50) : (wcs G z)[c]? = some (ha G c, ce G c (z.1 c) (z.2 c)) := by
  simp [wcs, h]
theorem wcs_set (G : GG) (z z' : St) {c : Nat} (h : c < 50) (ho : ∀ a, a ≠ c → z'.1 a = z.1 a ∧ z'.2 a = z.2 a) : (wcs G z).set c (ha G c, ce G c (z'.1 c) (z'.2 c)) = wcs G z' := by
  apply List.ext_getElem?
  intro i
  rw [List.getElem?_set]
  by_cases hi : c = i
  · subst hi
    have h2 : c < (wcs G z).length := by simp [wcs, h]
    simp only [if_true, h2, wcs_at G z' h]
  · rw [if_neg hi]
    by_cases h5 : i < 50
    · rw [wcs_at G z h5, wcs_at G z' h5, (ho i (Ne.symm hi)).1, (ho i (Ne.symm hi)).2]
    · have h6 : (wcs G z).length ≤ i := by simp [wcs]; omega
      have h7 : (wcs G z').length ≤ i := by simp [wcs]; omega
      rw [List.getElem?_eq_none h6, List.getElem?_eq_none h7]
theorem wI_off (z : St) (c k : Nat) (v : Int32) : ∀ a, a ≠ c → (wI z c k v).1 a = z.1 a ∧ (wI z c k v).2 a = z.2 a := fun a h => ⟨by funext b; simp [wI, h], rfl⟩
theorem wL_off (z : St) (c k : Nat) (v : Int64) : ∀ a, a ≠ c → (wL z c k v).1 a = z.1 a ∧ (wL z c k v).2 a = z.2 a := fun a h => ⟨rfl, by funext b; simp [wL, h]⟩
theorem wI_at (z : St) (c k : Nat) (v : Int32) : (wI z c k v).1 c = upd (z.1 c) k v := by funext b; simp [wI, upd]
theorem wL_at (z : St) (c k : Nat) (v : Int64) : (wL z c k v).2 c = vp_updL (z.2 c) k v := by funext b; simp [wL, vp_updL]
def OW (G : GG) (z : St) (t : State) : Prop := va_P G.1 vcl (wcs G z) t.heap ∧ va_D (fr G) (wcs G z)
def Wd (G : GG) (z : St) (H0 H : Heap) (locs : List Loc) : Prop := va_P G.1 vcl (wcs G z) H ∧ va_D (fr G) (wcs G z) ∧ va_S (fr G) H0 H locs ∧ ba G ≤ H0.size
theorem Wd.ow {G : GG} {z : St} {H0 H : Heap} {locs : List Loc} (h : Wd G z H0 H locs) {t : State} (ht : t.heap = H) : OW G z t := ⟨by rw [ht]; exact h.1, h.2.1⟩
abbrev QvR (Q : St → Prop) (G : GG) := va_Qv Q (OW G) (fr G)
abbrev QiR (Q : Int32 → St → Prop) (G : GG) := va_Qi Q (OW G) (fr G)
abbrev QlR (Q : Int64 → St → Prop) (G : GG) := va_Ql Q (OW G) (fr G)
-- what the tables and the statics say, at every state of the run
/-- the words that stay true under warmer tables, whatever the heap -/
def wk : Cond → Bool
  | .fieldLinkNest .. => true
  | .methodLinkNest .. => true
  | .declares _ => true
  | .castable .. => true
  | .arrayClass _ => true
  | w => w.onTables && w.keeps
theorem wk_at {a a' : Array Value} {s U : State} (hW : s.WarmedH U.vm) {w : Cond} (hw : wk w = true) (h : w.before a s = true) : w.before a' U = true := by
  cases w with
  | fieldLinkNest x1 x2 x3 x4 x5 x6 => exact va_Nw.use rfl (va_Nw.warmF hW (va_Nw.of rfl h))
  | methodLinkNest x1 x2 x3 x4 => exact va_Nw.use rfl (va_Nw.warmM hW (va_Nw.of rfl h))
  | declares x => exact va_Nw.use rfl (va_Nw.warmD hW (va_Nw.of rfl h))
  | castable x y => exact va_Nw.use rfl (va_Nw.warmC hW (va_Nw.of rfl h))
  | arrayClass ty => exact word_at hW (Or.inr ⟨_, rfl⟩) h
  | _ => exact word_at hW (Or.inl hw) h
/-- a static of Throwable that holds a reference or null, in a cell that no row of ours writes -/
def xs_St (G : GG) (n d : String) (U : State) : Prop := va_Zq Bundle.tN n d (fr G) U U.heap ∧ (Cond.laysStatic Bundle.tN n d).before #[] U = true
theorem xs_keep {G : GG} {n d : String} {s U : State} (hal : s.vm.Alike U.vm) (hH : ∀ q : Nat, q < s.heap.size → ¬ fr G q → U.heap[q]? = s.heap[q]?) (h : xs_St G n d s) : xs_St G n d U := by
  obtain ⟨h1, h2⟩ := h
  refine ⟨va_Zq.moved hal (h1.kept hH), ?_⟩
  obtain ⟨c, k, i, f, a, cell, hc, hi, hst, ha, hcell, hs, hcls, hlt, hty⟩ := Cond.laysStatic_spec h2
  have hA : ¬ fr G a := by
    rcases h1 with ⟨cf, kf, fi, f', a', cell', q1, q2, q3, q4, q5, q6, q7, q8⟩ | ⟨t, cf, kf, fi, f', a', cell', q1, q2, q3, q4, q5, q6, q7, q8⟩
    all_goals
      have e := Option.some.inj (hi.symm.trans q1)
      simp only [Prod.mk.injEq] at e
      rw [← e.2.1, ha] at q4
      cases q4
      exact q8
  obtain ⟨k', hi', hek⟩ := State.fieldFound?_setVm hal hi
  exact Cond.laysStatic_of (s := U) (by rw [hal.findClass]; exact hc) hi' hst (by rw [hek]; exact ha) (by rw [hH a (Array.getElem?_eq_some_iff.mp hcell).1 hA]; exact hcell) hs hcls hlt (by rw [hek]; exact hty)
theorem xs_ref {G : GG} {n d : String} {U : State} {a : Array Value} (h : xs_St G n d U) : (Cond.isRef (.static Bundle.tN n d)).before a U = true := by
  rcases h.1 with ⟨cf, kf, fi, f, q, cell, q1, q2, q3, q4, q5, q6, q7, q8⟩ | ⟨t, cf, kf, fi, f, q, cell, q1, q2, q3, q4, q5, q6, q7, q8⟩
  all_goals simp [Cond.before, Cond.holds, Cond.value, Term.eval, State.fieldNamed?, q1, q2, q4, q5, q6, q7]
def strs : List (String × Nat × String) := [("PanelOffice", 89, "no such trait or number, or a person has a value beyond it"), ("PanelOffice", 107, "no such value"), ("PanelOffice", 119, "too many persons or kinds"), ("PanelOffice", 125, "no such trait or value, or no such quota"), ("PanelOffice", 135, "no such size"), ("PanelOffice", 179, "too many states without a quota"), ("PanelOffice", 188, "no panel has this rank"), ("PanelOffice", 204, "those marked are no panel"), ("PanelOffice", 207, "no such dice"), ("PanelOffice", 212, "there is nothing to draw from"), ("PanelOffice", 221, "no throw is due"), ("PanelOffice", 226, "the dice have no such side"), ("PanelOffice", 234, "there is no number"), ("PanelOffice", 258, "a place is empty already"), ("PanelOffice", 263, "that is no member"), ("PanelOffice", 274, "no place is empty"), ("PanelOffice", 294, "the panel is drawn"), ("PanelOffice", 296, "no panel is drawn"), ("PanelOffice", 298, "too many states"), ("PanelOffice", 303, "no such person"), ("PanelOffice", 305, "a panel has no such place"), ("PanelOffice", 307, "below 0")]
/-- one class can't be assigned to another -/
def xn_No (A B : String) (U : State) : Prop := ∃ a b : ClassId, U.vm.findClass A = some a ∧ U.vm.findClass B = some b ∧ U.vm.assignable a b = false
theorem xn_No.moved {A B : String} {s U : State} (hal : s.vm.Alike U.vm) (h : xn_No A B s) : xn_No A B U := by
  obtain ⟨a, b, h1, h2, h3⟩ := h
  exact ⟨a, b, by rw [hal.findClass]; exact h1, by rw [hal.findClass]; exact h2, by rw [hal.assignable]; exact h3⟩
/-- the classes of exceptions, by number -/
def xcn (k : Nat) : String := match k with
  | 0 => "java/lang/IllegalArgumentException"
  | 1 => "java/lang/IllegalStateException"
  | 2 => "java/util/NoSuchElementException"
  | _ => "java/lang/UnsupportedOperationException"
def KK (l : Launch) (G : GG) (U : State) : Prop :=
  va_K G.1 vcl (vty G) U ∧ (∀ w ∈ lw_tbl, wk w = true → w.before #[] U = true) ∧ (xs_St G "UNASSIGNED_STACK" Bundle.steD U ∧ xs_St G "SUPPRESSED_SENTINEL" Bundle.listD U) ∧ (∀ x ∈ strs, ∃ q : Nat, vk_R x.1 x.2.1 x.2.2 q U) ∧ l.stackTraces = false ∧ ∀ i j : Nat, i < 4 → j < 4 → i ≠ j → xn_No (xcn i) (xcn j) U
theorem KK.warm {l : Launch} {G : GG} {s U : State} (h : KK l G s) (hW : s.WarmedH U.vm) (hH : ∀ q : Nat, q < s.heap.size → ¬ fr G q → U.heap[q]? = s.heap[q]?) : KK l G U :=
  ⟨va_K.moved hW.alike h.1, fun w hw hk => wk_at hW hk (h.2.1 w hw hk), ⟨xs_keep hW.alike hH h.2.2.1.1, xs_keep hW.alike hH h.2.2.1.2⟩, fun x hx => by obtain ⟨q, hq⟩ := h.2.2.2.1 x hx; exact ⟨q, vk_R.warm hW hq⟩, h.2.2.2.2.1, fun i j hi hj hn => (h.2.2.2.2.2 i j hi hj hn).moved hW.alike⟩
theorem KK.same {l : Launch} {G : GG} {s U : State} (h : KK l G s) (hv : U.vm = s.vm) (hh : U.heap = s.heap) : KK l G U :=
  h.warm (by rw [hv]; exact State.WarmedH.refl s) (fun q _ _ => by rw [hh])
/-- a word of the tables, for any arguments -/
theorem KK.w {l : Launch} {G : GG} {s : State} {a : Array Value} (h : KK l G s) {w : Cond} (hw : w ∈ lw_tbl) (hk : wk w = true) : w.before a s = true := wk_at (State.WarmedH.refl s) hk (h.2.1 w hw hk)
/-- the class's layout words among the tables -/
def lyt : List Cond := u_ws R_O F_O 12 ++ u_ws R_P F_P 6 ++ u_ws R_Q F_Q 2 ++ u_ws R_T F_T 13 ++ u_ws R_R F_R 2 ++ u_ws R_C F_C 6 ++ u_ws R_D F_D 8 ++ u_ws R_S F_S 9 ++ u_ws R_M F_M 35
theorem lyt_in : ∀ w ∈ lyt, w ∈ lw_tbl := by
  intro w hw
  unfold lyt at hw
  simp only [List.mem_append] at hw
  rcases hw with (((((((h | h) | h) | h) | h) | h) | h) | h) | h
  · exact in_O w h
  · exact in_P w h
  · exact in_Q w h
  · exact in_T w h
  · exact in_R w h
  · exact in_C w h
  · exact in_D w h
  · exact in_S w h
  · exact in_M w h
theorem lyt_wk : ∀ w ∈ lyt, wk w = true := by decide +kernel
theorem KK.l {l : Launch} {G : GG} {s : State} {a : Array Value} (h : KK l G s) : ∀ w ∈ lyt, w.before a s = true := fun w hw => h.w (lyt_in w hw) (lyt_wk w hw)
