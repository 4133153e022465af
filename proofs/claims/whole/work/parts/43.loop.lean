/-! The law's loop. Printed by wip/whole/lawgen.py; the first rows are the skeleton's. -/
def R_law : String := "PanelOfficeLaw"
def lw_P (b : Addr) (xs : List Int32) (args : Array Value) (s : State) : Prop := args = #[.ref b] ∧ s.IntsAt b xs ∧ xs.length ≤ 2560 ∧ (Jvm.Cond.and given_1 narrow_1).before args s = true
def lw_Q (_ : Array Value) (s : State) (o : Outcome) (t : State) : Prop := o = .returned (some (.int 1)) ∧ Framed s o t [] 1097 24514
def lw_Z (below : List Frame) (a : Array Value) (s : State) : State → Prop := fun t => ∃ o, t.status = .running ∧ Ended t below o ∧ lw_Q a s o t
/-- the law's own end, with 1 on the stack, nothing written that was there before, its room as the claim has it -/
theorem lw_ret {p : Program} {l : Launch} {e : Env} {s : State} {m : MethodId} {below : List Frame} {meth : Method} {c : Code} {b : Nat} (hx : p.tables.exec = Jvm.exec) (hb : c.code = code) (hr : meth.sig.returnType = ret) (hlocks : meth.locks = false) {pc : Nat} {H : Heap} {ls : Array Slot} (hdg : decode code pc = .ok (.ireturn, 1)) : W p l e room_1 s m #[Value.ref b] below meth c H [] 1097 24514 (lw_Z below #[Value.ref b] s) (F0 m pc ls [.int 1]) := by
  intro T hT X
  obtain ⟨fs, hret, hrun, hended, hW, hframe⟩ := X.leave (v := some (.int 1)) (hlocks := hlocks) (fun h => by rw [hr] at h; cases h)
  have hmeth' : T.vm.method? m = some meth := X.method'
  refine ⟨T.setFrames fs, ?_, .returned (some (.int 1)), hrun, hended, rfl, ⟨_, rfl⟩, hW, hframe⟩
  jvm_step X.here [X.here.top, hx, hb, hdg, hmeth', hr, ret, narrow_b1]
  (try refine ⟨rfl, ?_⟩); (try refine ⟨rfl, ?_⟩)
  first | (intro acts; rw [hret _ acts rfl rfl rfl]) | rw [hret _ _ rfl rfl rfl]
  exact Steps.refl _
/-- what holds at the law's entry: the machine, the code, the tables' words (any of lw_tbl by 'hts w (by decide +kernel)'), the script of L ints xs at the cell b, what the Statement gives of the start (any of its parts by flat_of_before) -/
def lw_At (p : Program) (s : State) (m : MethodId) (meth : Method) (c : Code) (b L : Nat) (xs : Nat → Int32) : Prop :=
  p.tables.exec = Jvm.exec ∧ c.code = code ∧ meth.sig.returnType = ret ∧ c.maxLocals = 8 ∧ s.vm.findClass R_law = some m.cls ∧ (∀ w ∈ lw_tbl, w.before #[Value.ref b] s = true) ∧ va_X b L xs s s.heap ∧ b < s.heap.size ∧ meth.locks = false ∧ (Jvm.Cond.and given_1 narrow_1).before #[Value.ref b] s = true
def BodyJ (k : Nat) (x1 x2 x3 x4 v4 : Int32) (z : St) (K : St → Prop) : Prop := match k with
  | 0 => B_0 x1 x2 x3 x4 v4 z K
  | 1 => B_1 x1 x2 x3 x4 v4 z K
  | 2 => B_2 x1 x2 x3 x4 v4 z K
  | 3 => B_3 x1 x2 x3 x4 v4 z K
  | 4 => B_4 x1 x2 x3 x4 v4 z K
  | 5 => B_5 x1 x2 x3 x4 v4 z K
  | 6 => B_6 x1 x2 x3 x4 v4 z K
  | 7 => B_7 x1 x2 x3 x4 v4 z K
  | 8 => B_8 x1 x2 x3 x4 v4 z K
  | 9 => B_9 x1 x2 x3 x4 v4 z K
  | 10 => B_10 x1 x2 x3 x4 v4 z K
  | 11 => B_11 x1 x2 x3 x4 v4 z K
  | 12 => B_12 x1 x2 x3 x4 v4 z K
  | 13 => B_13 x1 x2 x3 x4 v4 z K
  | 14 => B_14 x1 x2 x3 x4 v4 z K
  | 15 => B_15 x1 x2 x3 x4 v4 z K
  | 16 => B_16 x1 x2 x3 x4 v4 z K
  | 17 => B_17 x1 x2 x3 x4 v4 z K
  | 18 => B_18 x1 x2 x3 x4 v4 z K
  | 19 => B_19 x1 x2 x3 x4 v4 z K
  | 20 => B_20 x1 x2 x3 x4 v4 z K
  | 21 => B_21 x1 x2 x3 x4 v4 z K
  | _ => K z
def LawRun (xs : Nat → Int32) : Nat → Nat → St → Prop
  | 0, _, _ => True
  | n + 1, j, z => ∃ k : Nat, k < 32 ∧ xs (5 * j) &&& 31 = nI k ∧ BodyJ k (xs (5 * j + 1)) (xs (5 * j + 2)) (xs (5 * j + 3)) (xs (5 * j + 4)) (nI (5 * j)) z (fun z' => LawRun xs n (j + 1) z')
section Loop43
variable {p : Program} {l : Launch} {e : Env} {s : State} {m : MethodId} {below : List Frame} {meth : Method} {c : Code} {G : GG} {b L : Nat} {xs : Nat → Int32}
theorem xs_at {j d : Nat} (h : 5 * j + d < L) (hL : L ≤ 2560) (dd : Int32) (hd : dd = nI d) : vp_in (nI (5 * j) + dd) L ∧ xs (nI (5 * j) + dd).toNatClampNeg = xs (5 * j + d) := by
  subst hd
  rw [nI_add]
  exact ⟨vp_in_nI h (by omega), by rw [nI_clamp (by omega)]⟩
set_option maxHeartbeats 4000000 in
set_option maxRecDepth 100000 in
theorem law_loop (E : EnL p l s m meth c #[Value.ref b] b L xs G) (hL : L ≤ 2560) : ∀ (n j : Nat) (z : St) (ls : Array Slot) (H : Heap) (locs : List Loc) (cells slots : Nat), 5 * (n + j) ≤ L → L < 5 * (n + j) + 5 → LawRun xs n j z → cells + n ≤ 1097 → slots + 6 * n ≤ 24514 → lv_has ls 8 [(0, .ref b), (1, .ref (ha G 0)), (2, .ref (ha G 31)), (3, .ref (ha G 49)), (4, .int (nI (5 * j)))] → Wd G z s.heap H locs → W p l e room_1 s m #[Value.ref b] below meth c H locs cells slots (lw_Z below #[Value.ref b] s) (F0 m 23 ls []) := by
  obtain ⟨hx, hb, hml, hown, hr, hlk, hX, hbl, hba, hE⟩ := id E
  have hnb : ¬ fr G b := fun h => by have h9 : ba G ≤ b := h; omega
  have hcmp : ∀ j : Nat, 5 * j ≤ 2560 → (nI L - 5 < nI (5 * j) ↔ L < 5 * j + 5) := by
    intro j hj
    rw [Int32.lt_iff_toInt_lt, show (5 : Int32) = nI 5 from rfl, pk_sub_toInt (by omega) (by decide), nI_toInt (by omega)]
    omega
  intro n
  induction n with
  | zero =>
    intro j z ls H locs cells slots h1 h2 hP hc hs hl hW
    refine lv_iload hx hb d_L_law_23 (lv_at hl 4 rfl) ?_
    refine lv_aload_n hx hb d_L_law_25 rfl (lv_at hl 0 rfl) ?_
    refine va_slen hx hb hX hbl hnb hW.2.2.1 d_L_law_26 ?_
    refine lv_iconst (v := 5) hx hb d_L_law_27 (by decide) ?_
    refine lv_isub hx hb d_L_law_28 ?_
    refine lv_icmp_gt (tgt := 1237) hx hb d_L_law_29 rfl (fun hcc => ?_) (fun hcc => ?_)
    · refine va_forget (fun q hq => by have h9 : ba G ≤ q.base := hW.2.2.1.2.2 q hq; omega) ?_
      refine lv_iconst (v := 1) hx hb d_L_law_1237 (by decide) ?_
      exact W.widen (by omega) (by omega) (lw_ret hx hb hr hlk d_L_law_1238)
    · exact absurd ((hcmp j (by omega)).mpr (by omega)) hcc
  | succ n ih =>
    intro j z ls H locs cells slots h1 h2 hP hc hs hl hW
    refine lv_iload hx hb d_L_law_23 (lv_at hl 4 rfl) ?_
    refine lv_aload_n hx hb d_L_law_25 rfl (lv_at hl 0 rfl) ?_
    refine va_slen hx hb hX hbl hnb hW.2.2.1 d_L_law_26 ?_
    refine lv_iconst (v := 5) hx hb d_L_law_27 (by decide) ?_
    refine lv_isub hx hb d_L_law_28 ?_
    refine lv_icmp_gt (tgt := 1237) hx hb d_L_law_29 rfl (fun hcc => ?_) (fun hcc => ?_)
    · exact absurd ((hcmp j (by omega)).mp hcc) (by omega)
    · obtain ⟨k, hk, hxk, hB⟩ := hP
      refine lv_aload_n hx hb d_L_law_32 rfl (lv_at hl 0 rfl) ?_
      refine lv_iload hx hb d_L_law_33 (lv_at hl 4 rfl) ?_
      refine ysl (x := xs (5 * j)) E hW (vp_in_nI (by omega) (by omega)) (by rw [nI_clamp (by omega)]) d_L_law_35 ?_
      refine lv_bipush (v := 31) hx hb d_L_law_36 (by decide) ?_
      refine lv_iand hx hb d_L_law_38 ?_
      rw [hxk]
      have hs1 := xs_at (xs := xs) (j := j) (d := 1) (by omega) hL 1 rfl
      have hs2 := xs_at (xs := xs) (j := j) (d := 2) (by omega) hL 2 rfl
      have hs3 := xs_at (xs := xs) (j := j) (d := 3) (by omega) hL 3 rfl
      have hs4 := xs_at (xs := xs) (j := j) (d := 4) (by omega) hL 4 rfl
      have hK : ∀ (z0 : St) (ls : Array Slot) (H : Heap) (locs : List Loc), LawRun xs n (j + 1) z0 → lv_has ls 8 [(0, .ref b), (1, .ref (ha G 0)), (2, .ref (ha G 31)), (3, .ref (ha G 49)), (4, .int (nI (5 * j)))] → Wd G z0 s.heap H locs → W p l e room_1 s m #[Value.ref b] below meth c H locs (cells + 1) (slots + 6) (lw_Z below #[Value.ref b] s) (F0 m 1231 ls []) := by
        intro z0 ls H locs hP hl hW
        refine lv_iinc (k := 4) (v := nI (5 * (j + 1))) (lv' := [(4, .int (nI (5 * (j + 1)))), (0, .ref b), (1, .ref (ha G 0)), (2, .ref (ha G 31)), (3, .ref (ha G 49))]) hx hb d_L_law_1231 hl rfl (ii_p5 (by rw [show (5 : Int32) = nI 5 from rfl, nI_add]; rfl)) (by decide) rfl (fun ls hl => ?_)
        refine lv_goto (tgt := 23) hx hb d_L_law_1234 rfl ?_
        exact ih (j + 1) z0 ls H locs (cells + 1) (slots + 6) (by omega) (by omega) hP (by omega) (by omega) (lv_sub hl [1, 2, 3, 4, 0] rfl) hW
      have hcs : cells + 1 ≤ 1097 ∧ slots + 6 ≤ 24514 := ⟨by omega, by omega⟩
      match k, hk, hB with
      | 0, _, hB =>
        refine lv_tableIn (tgt := 140) hx hb d_L_law_39 (by decide) (by decide) rfl rfl ?_
        exact wB_0 E hcs hK hs1 hs2 hs3 hs4 z ls H locs hB hl hW
      | 1, _, hB =>
        refine lv_tableIn (tgt := 188) hx hb d_L_law_39 (by decide) (by decide) rfl rfl ?_
        exact wB_1 E hcs hK hs1 hs2 hs3 hs4 z ls H locs hB hl hW
      | 2, _, hB =>
        refine lv_tableIn (tgt := 268) hx hb d_L_law_39 (by decide) (by decide) rfl rfl ?_
        exact wB_2 E hcs hK hs1 hs2 hs3 hs4 z ls H locs hB hl hW
      | 3, _, hB =>
        refine lv_tableIn (tgt := 340) hx hb d_L_law_39 (by decide) (by decide) rfl rfl ?_
        exact wB_3 E hcs hK hs1 hs2 hs3 hs4 z ls H locs hB hl hW
      | 4, _, hB =>
        refine lv_tableIn (tgt := 376) hx hb d_L_law_39 (by decide) (by decide) rfl rfl ?_
        exact wB_4 E hcs hK hs1 hs2 hs3 hs4 z ls H locs hB hl hW
      | 5, _, hB =>
        refine lv_tableIn (tgt := 419) hx hb d_L_law_39 (by decide) (by decide) rfl rfl ?_
        exact wB_5 E hcs hK hs1 hs2 hs3 hs4 z ls H locs hB hl hW
      | 6, _, hB =>
        refine lv_tableIn (tgt := 432) hx hb d_L_law_39 (by decide) (by decide) rfl rfl ?_
        exact wB_6 E hcs hK hs1 hs2 hs3 hs4 z ls H locs hB hl hW
      | 7, _, hB =>
        refine lv_tableIn (tgt := 487) hx hb d_L_law_39 (by decide) (by decide) rfl rfl ?_
        exact wB_7 E hcs hK hs1 hs2 hs3 hs4 z ls H locs hB hl hW
      | 8, _, hB =>
        refine lv_tableIn (tgt := 543) hx hb d_L_law_39 (by decide) (by decide) rfl rfl ?_
        exact wB_8 E hcs hK hs1 hs2 hs3 hs4 z ls H locs hB hl hW
      | 9, _, hB =>
        refine lv_tableIn (tgt := 599) hx hb d_L_law_39 (by decide) (by decide) rfl rfl ?_
        exact wB_9 E hcs hK hs1 hs2 hs3 hs4 z ls H locs hB hl hW
      | 10, _, hB =>
        refine lv_tableIn (tgt := 699) hx hb d_L_law_39 (by decide) (by decide) rfl rfl ?_
        exact wB_10 E hcs hK hs1 hs2 hs3 hs4 z ls H locs hB hl hW
      | 11, _, hB =>
        refine lv_tableIn (tgt := 762) hx hb d_L_law_39 (by decide) (by decide) rfl rfl ?_
        exact wB_11 E hcs hK hs1 hs2 hs3 hs4 z ls H locs hB hl hW
      | 12, _, hB =>
        refine lv_tableIn (tgt := 805) hx hb d_L_law_39 (by decide) (by decide) rfl rfl ?_
        exact wB_12 E hcs hK hs1 hs2 hs3 hs4 z ls H locs hB hl hW
      | 13, _, hB =>
        refine lv_tableIn (tgt := 861) hx hb d_L_law_39 (by decide) (by decide) rfl rfl ?_
        exact wB_13 E hcs hK hs1 hs2 hs3 hs4 z ls H locs hB hl hW
      | 14, _, hB =>
        refine lv_tableIn (tgt := 917) hx hb d_L_law_39 (by decide) (by decide) rfl rfl ?_
        exact wB_14 E hcs hK hs1 hs2 hs3 hs4 z ls H locs hB hl hW
      | 15, _, hB =>
        refine lv_tableIn (tgt := 960) hx hb d_L_law_39 (by decide) (by decide) rfl rfl ?_
        exact wB_15 E hcs hK hs1 hs2 hs3 hs4 z ls H locs hB hl hW
      | 16, _, hB =>
        refine lv_tableIn (tgt := 984) hx hb d_L_law_39 (by decide) (by decide) rfl rfl ?_
        exact wB_16 E hcs hK hs1 hs2 hs3 hs4 z ls H locs hB hl hW
      | 17, _, hB =>
        refine lv_tableIn (tgt := 1040) hx hb d_L_law_39 (by decide) (by decide) rfl rfl ?_
        exact wB_17 E hcs hK hs1 hs2 hs3 hs4 z ls H locs hB hl hW
      | 18, _, hB =>
        refine lv_tableIn (tgt := 1076) hx hb d_L_law_39 (by decide) (by decide) rfl rfl ?_
        exact wB_18 E hcs hK hs1 hs2 hs3 hs4 z ls H locs hB hl hW
      | 19, _, hB =>
        refine lv_tableIn (tgt := 1132) hx hb d_L_law_39 (by decide) (by decide) rfl rfl ?_
        exact wB_19 E hcs hK hs1 hs2 hs3 hs4 z ls H locs hB hl hW
      | 20, _, hB =>
        refine lv_tableIn (tgt := 1176) hx hb d_L_law_39 (by decide) (by decide) rfl rfl ?_
        exact wB_20 E hcs hK hs1 hs2 hs3 hs4 z ls H locs hB hl hW
      | 21, _, hB =>
        refine lv_tableIn (tgt := 1220) hx hb d_L_law_39 (by decide) (by decide) rfl rfl ?_
        exact wB_21 E hcs hK hs1 hs2 hs3 hs4 z ls H locs hB hl hW
      | 22, _, hB =>
        refine lv_tableOut (tgt := 1231) hx hb d_L_law_39 (by decide) rfl ?_
        exact W.widen (Nat.le_add_right _ 1) (Nat.le_add_right _ 6) (hK z ls H locs hB hl hW)
      | 23, _, hB =>
        refine lv_tableOut (tgt := 1231) hx hb d_L_law_39 (by decide) rfl ?_
        exact W.widen (Nat.le_add_right _ 1) (Nat.le_add_right _ 6) (hK z ls H locs hB hl hW)
      | 24, _, hB =>
        refine lv_tableOut (tgt := 1231) hx hb d_L_law_39 (by decide) rfl ?_
        exact W.widen (Nat.le_add_right _ 1) (Nat.le_add_right _ 6) (hK z ls H locs hB hl hW)
      | 25, _, hB =>
        refine lv_tableOut (tgt := 1231) hx hb d_L_law_39 (by decide) rfl ?_
        exact W.widen (Nat.le_add_right _ 1) (Nat.le_add_right _ 6) (hK z ls H locs hB hl hW)
      | 26, _, hB =>
        refine lv_tableOut (tgt := 1231) hx hb d_L_law_39 (by decide) rfl ?_
        exact W.widen (Nat.le_add_right _ 1) (Nat.le_add_right _ 6) (hK z ls H locs hB hl hW)
      | 27, _, hB =>
        refine lv_tableOut (tgt := 1231) hx hb d_L_law_39 (by decide) rfl ?_
        exact W.widen (Nat.le_add_right _ 1) (Nat.le_add_right _ 6) (hK z ls H locs hB hl hW)
      | 28, _, hB =>
        refine lv_tableOut (tgt := 1231) hx hb d_L_law_39 (by decide) rfl ?_
        exact W.widen (Nat.le_add_right _ 1) (Nat.le_add_right _ 6) (hK z ls H locs hB hl hW)
      | 29, _, hB =>
        refine lv_tableOut (tgt := 1231) hx hb d_L_law_39 (by decide) rfl ?_
        exact W.widen (Nat.le_add_right _ 1) (Nat.le_add_right _ 6) (hK z ls H locs hB hl hW)
      | 30, _, hB =>
        refine lv_tableOut (tgt := 1231) hx hb d_L_law_39 (by decide) rfl ?_
        exact W.widen (Nat.le_add_right _ 1) (Nat.le_add_right _ 6) (hK z ls H locs hB hl hW)
      | 31, _, hB =>
        refine lv_tableOut (tgt := 1231) hx hb d_L_law_39 (by decide) rfl ?_
        exact W.widen (Nat.le_add_right _ 1) (Nat.le_add_right _ 6) (hK z ls H locs hB hl hW)
      | k + 32, hk, _ => exact absurd hk (by omega)
end Loop43
