/-! T_aheadWithOneOf, A_fill2, T_passOn, T_countBehind, T_panelsWithOneOf, O_chance, O_kind, O_requireIndex, C_isRefused, C_nameOf, Q_set2, Q_copyOneFrom, Q_isLeftOut, Q_leaveOut, T_takesFrom2, T_addLayer2, T_isPanel2 -/
section Code
variable {p : Program} {l : Launch} {e : Env} {s : State} {m : MethodId} {args : Array Value} {below : List Frame} {meth : Method} {c : Code} {G : GG}
theorem d_T_aheadWithOneOf_0 : decode cc_T_aheadWithOneOf 0 = .ok (.aload_n 0, 1) := by decide +kernel
theorem d_T_aheadWithOneOf_1 : decode cc_T_aheadWithOneOf 1 = .ok (.getfield 19, 3) := by decide +kernel
theorem d_T_aheadWithOneOf_4 : decode cc_T_aheadWithOneOf 4 = .ok (.iload_n 1, 1) := by decide +kernel
theorem d_T_aheadWithOneOf_5 : decode cc_T_aheadWithOneOf 5 = .ok (.iaload, 1) := by decide +kernel
theorem d_T_aheadWithOneOf_6 : decode cc_T_aheadWithOneOf 6 = .ok (.istore_n 3, 1) := by decide +kernel
theorem d_T_aheadWithOneOf_7 : decode cc_T_aheadWithOneOf 7 = .ok (.lconst 0, 1) := by decide +kernel
theorem d_T_aheadWithOneOf_8 : decode cc_T_aheadWithOneOf 8 = .ok (.lstore 4, 2) := by decide +kernel
theorem d_T_aheadWithOneOf_10 : decode cc_T_aheadWithOneOf 10 = .ok (.iconst 1, 1) := by decide +kernel
theorem d_T_aheadWithOneOf_11 : decode cc_T_aheadWithOneOf 11 = .ok (.istore 6, 2) := by decide +kernel
theorem d_T_aheadWithOneOf_13 : decode cc_T_aheadWithOneOf 13 = .ok (.iload 6, 2) := by decide +kernel
theorem d_T_aheadWithOneOf_15 : decode cc_T_aheadWithOneOf 15 = .ok (.aload_n 0, 1) := by decide +kernel
theorem d_T_aheadWithOneOf_16 : decode cc_T_aheadWithOneOf 16 = .ok (.getfield 15, 3) := by decide +kernel
theorem d_T_aheadWithOneOf_19 : decode cc_T_aheadWithOneOf 19 = .ok (.iload_n 1, 1) := by decide +kernel
theorem d_T_aheadWithOneOf_20 : decode cc_T_aheadWithOneOf 20 = .ok (.iaload, 1) := by decide +kernel
theorem d_T_aheadWithOneOf_21 : decode cc_T_aheadWithOneOf 21 = .ok (.if_icmp .gt 39, 3) := by decide +kernel
theorem d_T_aheadWithOneOf_24 : decode cc_T_aheadWithOneOf 24 = .ok (.aload_n 0, 1) := by decide +kernel
theorem d_T_aheadWithOneOf_25 : decode cc_T_aheadWithOneOf 25 = .ok (.getfield 22, 3) := by decide +kernel
theorem d_T_aheadWithOneOf_28 : decode cc_T_aheadWithOneOf 28 = .ok (.iload_n 3, 1) := by decide +kernel
theorem d_T_aheadWithOneOf_29 : decode cc_T_aheadWithOneOf 29 = .ok (.iaload, 1) := by decide +kernel
theorem d_T_aheadWithOneOf_30 : decode cc_T_aheadWithOneOf 30 = .ok (.istore_n 3, 1) := by decide +kernel
theorem d_T_aheadWithOneOf_31 : decode cc_T_aheadWithOneOf 31 = .ok (.lload 4, 2) := by decide +kernel
theorem d_T_aheadWithOneOf_33 : decode cc_T_aheadWithOneOf 33 = .ok (.aload_n 0, 1) := by decide +kernel
theorem d_T_aheadWithOneOf_34 : decode cc_T_aheadWithOneOf 34 = .ok (.iload_n 2, 1) := by decide +kernel
theorem d_T_aheadWithOneOf_35 : decode cc_T_aheadWithOneOf 35 = .ok (.iconst 1, 1) := by decide +kernel
theorem d_T_aheadWithOneOf_36 : decode cc_T_aheadWithOneOf 36 = .ok (.isub, 1) := by decide +kernel
theorem d_T_aheadWithOneOf_37 : decode cc_T_aheadWithOneOf 37 = .ok (.iload 6, 2) := by decide +kernel
theorem d_T_aheadWithOneOf_39 : decode cc_T_aheadWithOneOf 39 = .ok (.iconst 1, 1) := by decide +kernel
theorem d_T_aheadWithOneOf_40 : decode cc_T_aheadWithOneOf 40 = .ok (.isub, 1) := by decide +kernel
theorem d_T_aheadWithOneOf_41 : decode cc_T_aheadWithOneOf 41 = .ok (.invokevirtual 142, 3) := by decide +kernel
theorem d_T_aheadWithOneOf_44 : decode cc_T_aheadWithOneOf 44 = .ok (.aload_n 0, 1) := by decide +kernel
theorem d_T_aheadWithOneOf_45 : decode cc_T_aheadWithOneOf 45 = .ok (.getfield 25, 3) := by decide +kernel
theorem d_T_aheadWithOneOf_48 : decode cc_T_aheadWithOneOf 48 = .ok (.iload_n 3, 1) := by decide +kernel
theorem d_T_aheadWithOneOf_49 : decode cc_T_aheadWithOneOf 49 = .ok (.laload, 1) := by decide +kernel
theorem d_T_aheadWithOneOf_50 : decode cc_T_aheadWithOneOf 50 = .ok (.lmul, 1) := by decide +kernel
theorem d_T_aheadWithOneOf_51 : decode cc_T_aheadWithOneOf 51 = .ok (.ladd, 1) := by decide +kernel
theorem d_T_aheadWithOneOf_52 : decode cc_T_aheadWithOneOf 52 = .ok (.lstore 4, 2) := by decide +kernel
theorem d_T_aheadWithOneOf_54 : decode cc_T_aheadWithOneOf 54 = .ok (.iinc 6 1, 3) := by decide +kernel
theorem d_T_aheadWithOneOf_57 : decode cc_T_aheadWithOneOf 57 = .ok (.goto (-44), 3) := by decide +kernel
theorem d_T_aheadWithOneOf_60 : decode cc_T_aheadWithOneOf 60 = .ok (.lload 4, 2) := by decide +kernel
theorem d_T_aheadWithOneOf_62 : decode cc_T_aheadWithOneOf 62 = .ok (.lreturn, 1) := by decide +kernel
def L_T_aheadWithOneOf_13 (Q : Int64 → St → Prop) : Nat → Int32 → Int32 → Int32 → Int64 → Int32 → St → Prop
  | 0, _, _, _, _, _, _ => False
  | n + 1, v1, v2, v3, v4, v6, z0 => vp_in v1 1001 ∧ (((z0.1 11 v1.toNatClampNeg) < v6) → Q v4 z0) ∧ ((¬ (z0.1 11 v1.toNatClampNeg) < v6) → vp_in v3 1001 ∧ ∀ x2 : Int32, x2 = (z0.1 13 v3.toNatClampNeg) → P_T_choose (v2 - (1 : Int32)) (v6 - (1 : Int32)) z0 (fun (x4 : Int64) (z3 : St) => vp_in x2 1001 ∧ ∀ x5 : Int64, x5 = v4 + (x4 * (z3.2 14 x2.toNatClampNeg)) → ∀ x6 : Int32, x6 = v6 + 1 → L_T_aheadWithOneOf_13 Q n v1 v2 x2 x5 x6 z3))
def P_T_aheadWithOneOf (a1 : Int32) (a2 : Int32) (z0 : St) (Q : Int64 → St → Prop) : Prop := vp_in a1 1001 ∧ ∀ x1 : Int32, x1 = (z0.1 12 a1.toNatClampNeg) → ∃ k13 : Nat, L_T_aheadWithOneOf_13 Q k13 a1 a2 x1 (0 : Int64) (1 : Int32) z0
set_option maxHeartbeats 4000000 in
set_option maxRecDepth 100000 in
theorem wL_T_aheadWithOneOf_13 {Q : Int64 → St → Prop} (E : En p l s m meth c args cc_T_aheadWithOneOf 7 R_T (some .long) G) :
    ∀ (n : Nat) (v1 : Int32) (v2 : Int32) (v3 : Int32) (v4 : Int64) (v6 : Int32) (z0 : St) (ls : Array Slot) (H : Heap) (locs : List Loc), L_T_aheadWithOneOf_13 Q n v1 v2 v3 v4 v6 z0 → lv_has ls 7 [(0, .ref (ha G 9)), (1, .int v1), (2, .int v2), (3, .int v3), (4, .long v4), (6, .int v6)] → Wd G z0 s.heap H locs → W p l e rm_T_aheadWithOneOf s m args below meth c H locs 0 0 (MQ below (QlR Q G) args s 0 0 (fr G)) (F0 m 13 ls []) := by
  obtain ⟨hx, hb, hml, hown, hr, hlk, hex, hE⟩ := id E
  intro n
  induction n with
  | zero => exact fun _ _ _ _ _ _ _ _ _ hP _ _ => hP.elim
  | succ n ih =>
    intro v1 v2 v3 v4 v6 z0 ls H locs hP hl hW
    refine lv_iload hx hb d_T_aheadWithOneOf_13 (lv_at hl 5 rfl) ?_
    refine lv_aload_n hx hb d_T_aheadWithOneOf_15 rfl (lv_at hl 0 rfl) ?_
    refine ygf_9_2 hx hb hown hE hW (lk_T_15 hE) d_T_aheadWithOneOf_16 ?_
    refine lv_iload_n hx hb d_T_aheadWithOneOf_19 rfl (lv_at hl 1 rfl) ?_
    refine ya_11 hx hb hE hW hP.1 d_T_aheadWithOneOf_20 ?_
    have hP := hP.2
    refine lv_icmp_gt (tgt := 60) hx hb d_T_aheadWithOneOf_21 rfl (fun hc => ?_) (fun hc => ?_)
    · have hP := hP.1 hc
      refine lv_lload hx hb d_T_aheadWithOneOf_60 (lv_at hl 4 rfl) ?_
      exact yr_l hx hb hr hlk hW hP d_T_aheadWithOneOf_62
    · have hP := hP.2 hc
      refine lv_aload_n hx hb d_T_aheadWithOneOf_24 rfl (lv_at hl 0 rfl) ?_
      refine ygf_9_4 hx hb hown hE hW (lk_T_22 hE) d_T_aheadWithOneOf_25 ?_
      refine lv_iload_n hx hb d_T_aheadWithOneOf_28 rfl (lv_at hl 3 rfl) ?_
      refine ya_13 hx hb hE hW hP.1 d_T_aheadWithOneOf_29 ?_
      have hP := hP.2
      refine lv_topi (fun x2 e_x2 => ?_)
      have hP := hP x2 e_x2
      refine lv_istore_n (lv' := [(3, .int x2), (0, .ref (ha G 9)), (1, .int v1), (2, .int v2), (4, .long v4), (6, .int v6)]) hx hb d_T_aheadWithOneOf_30 rfl hl (by decide) rfl (fun ls hl => ?_)
      refine lv_lload hx hb d_T_aheadWithOneOf_31 (lv_at hl 4 rfl) ?_
      refine lv_aload_n hx hb d_T_aheadWithOneOf_33 rfl (lv_at hl 1 rfl) ?_
      refine lv_iload_n hx hb d_T_aheadWithOneOf_34 rfl (lv_at hl 3 rfl) ?_
      refine lv_iconst (v := 1) hx hb d_T_aheadWithOneOf_35 (by decide) ?_
      refine lv_isub hx hb d_T_aheadWithOneOf_36 ?_
      refine lv_iload hx hb d_T_aheadWithOneOf_37 (lv_at hl 5 rfl) ?_
      refine lv_iconst (v := 1) hx hb d_T_aheadWithOneOf_39 (by decide) ?_
      refine lv_isub hx hb d_T_aheadWithOneOf_40 ?_
      refine yc_l (yV (As := [.int (v2 - (1 : Int32)), .int (v6 - (1 : Int32))]) (rest := [.long v4]) E (c_T_choose _ _ _ _ hP) (cw_T_142 hE) (yrv_9 hE hW) (by decide) hW hl.1 rfl rfl rfl d_T_aheadWithOneOf_41) hW (fun x4 z3 H locs hP hW => ?_)
      refine lv_aload_n hx hb d_T_aheadWithOneOf_44 rfl (lv_at hl 1 rfl) ?_
      refine ygf_9_5 hx hb hown hE hW (lk_T_25 hE) d_T_aheadWithOneOf_45 ?_
      refine lv_iload_n hx hb d_T_aheadWithOneOf_48 rfl (lv_at hl 0 rfl) ?_
      refine ya_14 hx hb hE hW hP.1 d_T_aheadWithOneOf_49 ?_
      have hP := hP.2
      refine lv_lmul hx hb d_T_aheadWithOneOf_50 ?_
      refine lv_ladd hx hb d_T_aheadWithOneOf_51 ?_
      refine lv_topl (fun x5 e_x5 => ?_)
      have hP := hP x5 e_x5
      refine lv_lstore (lv' := [(4, .long x5), (3, .int x2), (0, .ref (ha G 9)), (1, .int v1), (2, .int v2), (6, .int v6)]) hx hb d_T_aheadWithOneOf_52 hl (by decide) rfl (fun ls hl => ?_)
      obtain ⟨x6, e_x6⟩ : ∃ z : Int32, z = v6 + 1 := ⟨_, rfl⟩
      have hP := hP x6 e_x6
      refine lv_iinc (k := 5) (lv' := [(6, .int x6), (4, .long x5), (3, .int x2), (0, .ref (ha G 9)), (1, .int v1), (2, .int v2)]) hx hb d_T_aheadWithOneOf_54 hl rfl (ii_p1 e_x6) (by decide) rfl (fun ls hl => ?_)
      refine lv_goto (tgt := 13) hx hb d_T_aheadWithOneOf_57 rfl ?_
      exact ih _ _ _ _ _ _ _ _ _ hP (lv_sub hl [3, 4, 5, 2, 1, 0] rfl) hW
set_option maxHeartbeats 4000000 in
set_option maxRecDepth 100000 in
theorem c_T_aheadWithOneOf {l : Launch} {G : GG} (a1 : Int32) (a2 : Int32) (z0 : St) (Q : Int64 → St → Prop) (hP : P_T_aheadWithOneOf a1 a2 z0 Q) : Ctl l y_T_aheadWithOneOf cc_T_aheadWithOneOf 7 (some .long) rm_T_aheadWithOneOf G [.ref (ha G 9), .int a1, .int a2] z0 Q := by
  refine Ctl.op (own := R_T) (by decide) rfl (Nat.le_of_ble_eq_true rfl) (fun p e s m args below meth c ls E hl hW => ?_)
  obtain ⟨hx, hb, hml, hown, hr, hlk, hex, hE⟩ := id E
  have hl : lv_has ls 7 [(0, .ref (ha G 9)), (1, .int a1), (2, .int a2)] := hl
  refine lv_aload_n hx hb d_T_aheadWithOneOf_0 rfl (lv_at hl 0 rfl) ?_
  refine ygf_9_3 hx hb hown hE hW (lk_T_19 hE) d_T_aheadWithOneOf_1 ?_
  refine lv_iload_n hx hb d_T_aheadWithOneOf_4 rfl (lv_at hl 1 rfl) ?_
  refine ya_12 hx hb hE hW hP.1 d_T_aheadWithOneOf_5 ?_
  have hP := hP.2
  refine lv_topi (fun x1 e_x1 => ?_)
  have hP := hP x1 e_x1
  refine lv_istore_n (lv' := [(3, .int x1), (0, .ref (ha G 9)), (1, .int a1), (2, .int a2)]) hx hb d_T_aheadWithOneOf_6 rfl hl (by decide) rfl (fun ls hl => ?_)
  refine lv_lconst (v := 0) hx hb d_T_aheadWithOneOf_7 (by decide) ?_
  refine lv_lstore (lv' := [(4, .long (0 : Int64)), (3, .int x1), (0, .ref (ha G 9)), (1, .int a1), (2, .int a2)]) hx hb d_T_aheadWithOneOf_8 hl (by decide) rfl (fun ls hl => ?_)
  refine lv_iconst (v := 1) hx hb d_T_aheadWithOneOf_10 (by decide) ?_
  refine lv_istore (lv' := [(6, .int (1 : Int32)), (4, .long (0 : Int64)), (3, .int x1), (0, .ref (ha G 9)), (1, .int a1), (2, .int a2)]) hx hb d_T_aheadWithOneOf_11 hl (by decide) rfl (fun ls hl => ?_)
  obtain ⟨n2, hP⟩ := hP
  refine wL_T_aheadWithOneOf_13 E n2 _ _ _ _ _ _ _ _ _ hP (lv_sub hl [3, 4, 5, 2, 1, 0] rfl) hW
theorem d_A_fill0_0 : decode cc_A_fill0 0 = .ok (.iconst 0, 1) := by decide +kernel
theorem d_A_fill0_1 : decode cc_A_fill0 1 = .ok (.istore_n 3, 1) := by decide +kernel
theorem d_A_fill0_2 : decode cc_A_fill0 2 = .ok (.aload_n 0, 1) := by decide +kernel
theorem d_A_fill0_3 : decode cc_A_fill0 3 = .ok (.arraylength, 1) := by decide +kernel
theorem d_A_fill0_4 : decode cc_A_fill0 4 = .ok (.istore 4, 2) := by decide +kernel
theorem d_A_fill0_6 : decode cc_A_fill0 6 = .ok (.iload_n 3, 1) := by decide +kernel
theorem d_A_fill0_7 : decode cc_A_fill0 7 = .ok (.iload 4, 2) := by decide +kernel
theorem d_A_fill0_9 : decode cc_A_fill0 9 = .ok (.if_icmp .ge 13, 3) := by decide +kernel
theorem d_A_fill0_12 : decode cc_A_fill0 12 = .ok (.aload_n 0, 1) := by decide +kernel
theorem d_A_fill0_13 : decode cc_A_fill0 13 = .ok (.iload_n 3, 1) := by decide +kernel
theorem d_A_fill0_14 : decode cc_A_fill0 14 = .ok (.lload_n 1, 1) := by decide +kernel
theorem d_A_fill0_15 : decode cc_A_fill0 15 = .ok (.lastore, 1) := by decide +kernel
theorem d_A_fill0_16 : decode cc_A_fill0 16 = .ok (.iinc 3 1, 3) := by decide +kernel
theorem d_A_fill0_19 : decode cc_A_fill0 19 = .ok (.goto (-13), 3) := by decide +kernel
theorem d_A_fill0_22 : decode cc_A_fill0 22 = .ok (.return_, 1) := by decide +kernel
def L_A_fill2_6 (Q : St → Prop) : Nat → Int64 → Int32 → Int32 → St → Prop
  | 0, _, _, _, _ => False
  | n + 1, v1, v3, v4, z0 => ((v4 ≤ v3) → Q z0) ∧ ((¬ v4 ≤ v3) → vp_in v3 1001 ∧ ∀ z1 : St, z1 = wL z0 15 v3.toNatClampNeg v1 → ∀ x2 : Int32, x2 = v3 + 1 → L_A_fill2_6 Q n v1 x2 v4 z1)
def P_A_fill2 (a1 : Int64) (z0 : St) (Q : St → Prop) : Prop := ∃ k6 : Nat, L_A_fill2_6 Q k6 a1 (0 : Int32) (1001 : Int32) z0
set_option maxHeartbeats 4000000 in
set_option maxRecDepth 100000 in
theorem wL_A_fill2_6 {Q : St → Prop} (E : En p l s m meth c args cc_A_fill0 5 R_A none G) :
    ∀ (n : Nat) (v1 : Int64) (v3 : Int32) (v4 : Int32) (z0 : St) (ls : Array Slot) (H : Heap) (locs : List Loc), L_A_fill2_6 Q n v1 v3 v4 z0 → lv_has ls 5 [(0, .ref (ha G 15)), (1, .long v1), (3, .int v3), (4, .int v4)] → Wd G z0 s.heap H locs → W p l e rm_A_fill2 s m args below meth c H locs 0 0 (MQ below (QvR Q G) args s 0 0 (fr G)) (F0 m 6 ls []) := by
  obtain ⟨hx, hb, hml, hown, hr, hlk, hex, hE⟩ := id E
  intro n
  induction n with
  | zero => exact fun _ _ _ _ _ _ _ hP _ _ => hP.elim
  | succ n ih =>
    intro v1 v3 v4 z0 ls H locs hP hl hW
    refine lv_iload_n hx hb d_A_fill0_6 rfl (lv_at hl 2 rfl) ?_
    refine lv_iload hx hb d_A_fill0_7 (lv_at hl 3 rfl) ?_
    refine lv_icmp_ge (tgt := 22) hx hb d_A_fill0_9 rfl (fun hc => ?_) (fun hc => ?_)
    · have hP := hP.1 hc
      exact yr_v hx hb hr hlk hW hP d_A_fill0_22
    · have hP := hP.2 hc
      refine lv_aload_n hx hb d_A_fill0_12 rfl (lv_at hl 0 rfl) ?_
      refine lv_iload_n hx hb d_A_fill0_13 rfl (lv_at hl 2 rfl) ?_
      refine lv_lload_n hx hb d_A_fill0_14 rfl (lv_at hl 1 rfl) ?_
      refine ys_15 hx hb hE hW hP.1 d_A_fill0_15 (fun z1 H locs e_z1 hW => ?_)
      have hP := hP.2
      have hP := hP z1 e_z1
      obtain ⟨x2, e_x2⟩ : ∃ z : Int32, z = v3 + 1 := ⟨_, rfl⟩
      have hP := hP x2 e_x2
      refine lv_iinc (k := 2) (lv' := [(3, .int x2), (0, .ref (ha G 15)), (1, .long v1), (4, .int v4)]) hx hb d_A_fill0_16 hl rfl (ii_p1 e_x2) (by decide) rfl (fun ls hl => ?_)
      refine lv_goto (tgt := 6) hx hb d_A_fill0_19 rfl ?_
      exact ih _ _ _ _ _ _ _ hP (lv_sub hl [1, 2, 0, 3] rfl) hW
set_option maxHeartbeats 4000000 in
set_option maxRecDepth 100000 in
theorem c_A_fill2 {l : Launch} {G : GG} (a1 : Int64) (z0 : St) (Q : St → Prop) (hP : P_A_fill2 a1 z0 Q) : Ctv l y_A_fill0 cc_A_fill0 5 none rm_A_fill2 G [.ref (ha G 15), .long a1] z0 Q := by
  refine Ctv.op (own := R_A) (by decide) rfl (Nat.le_of_ble_eq_true rfl) (fun p e s m args below meth c ls E hl hW => ?_)
  obtain ⟨hx, hb, hml, hown, hr, hlk, hex, hE⟩ := id E
  have hl : lv_has ls 5 [(0, .ref (ha G 15)), (1, .long a1)] := hl
  refine lv_iconst (v := 0) hx hb d_A_fill0_0 (by decide) ?_
  refine lv_istore_n (lv' := [(3, .int (0 : Int32)), (0, .ref (ha G 15)), (1, .long a1)]) hx hb d_A_fill0_1 rfl hl (by decide) rfl (fun ls hl => ?_)
  refine lv_aload_n hx hb d_A_fill0_2 rfl (lv_at hl 1 rfl) ?_
  refine yn_15 hx hb hE hW d_A_fill0_3 ?_
  refine lv_istore (lv' := [(4, .int (1001 : Int32)), (3, .int (0 : Int32)), (0, .ref (ha G 15)), (1, .long a1)]) hx hb d_A_fill0_4 hl (by decide) rfl (fun ls hl => ?_)
  obtain ⟨n2, hP⟩ := hP
  refine wL_A_fill2_6 E n2 _ _ _ _ _ _ _ hP (lv_sub hl [2, 3, 1, 0] rfl) hW
theorem d_T_passOn_0 : decode cc_T_passOn 0 = .ok (.aload_n 0, 1) := by decide +kernel
theorem d_T_passOn_1 : decode cc_T_passOn 1 = .ok (.getfield 19, 3) := by decide +kernel
theorem d_T_passOn_4 : decode cc_T_passOn 4 = .ok (.iload_n 1, 1) := by decide +kernel
theorem d_T_passOn_5 : decode cc_T_passOn 5 = .ok (.iaload, 1) := by decide +kernel
theorem d_T_passOn_6 : decode cc_T_passOn 6 = .ok (.istore_n 3, 1) := by decide +kernel
theorem d_T_passOn_7 : decode cc_T_passOn 7 = .ok (.aload_n 0, 1) := by decide +kernel
theorem d_T_passOn_8 : decode cc_T_passOn 8 = .ok (.getfield 28, 3) := by decide +kernel
theorem d_T_passOn_11 : decode cc_T_passOn 11 = .ok (.iload_n 3, 1) := by decide +kernel
theorem d_T_passOn_12 : decode cc_T_passOn 12 = .ok (.dup2, 1) := by decide +kernel
theorem d_T_passOn_13 : decode cc_T_passOn 13 = .ok (.laload, 1) := by decide +kernel
theorem d_T_passOn_14 : decode cc_T_passOn 14 = .ok (.aload_n 0, 1) := by decide +kernel
theorem d_T_passOn_15 : decode cc_T_passOn 15 = .ok (.getfield 28, 3) := by decide +kernel
theorem d_T_passOn_18 : decode cc_T_passOn 18 = .ok (.iload_n 1, 1) := by decide +kernel
theorem d_T_passOn_19 : decode cc_T_passOn 19 = .ok (.laload, 1) := by decide +kernel
theorem d_T_passOn_20 : decode cc_T_passOn 20 = .ok (.ladd, 1) := by decide +kernel
theorem d_T_passOn_21 : decode cc_T_passOn 21 = .ok (.lastore, 1) := by decide +kernel
theorem d_T_passOn_22 : decode cc_T_passOn 22 = .ok (.iconst 1, 1) := by decide +kernel
theorem d_T_passOn_23 : decode cc_T_passOn 23 = .ok (.istore 4, 2) := by decide +kernel
theorem d_T_passOn_25 : decode cc_T_passOn 25 = .ok (.iload 4, 2) := by decide +kernel
theorem d_T_passOn_27 : decode cc_T_passOn 27 = .ok (.aload_n 0, 1) := by decide +kernel
theorem d_T_passOn_28 : decode cc_T_passOn 28 = .ok (.getfield 15, 3) := by decide +kernel
theorem d_T_passOn_31 : decode cc_T_passOn 31 = .ok (.iload_n 1, 1) := by decide +kernel
theorem d_T_passOn_32 : decode cc_T_passOn 32 = .ok (.iaload, 1) := by decide +kernel
theorem d_T_passOn_33 : decode cc_T_passOn 33 = .ok (.if_icmp .gt 39, 3) := by decide +kernel
theorem d_T_passOn_36 : decode cc_T_passOn 36 = .ok (.aload_n 0, 1) := by decide +kernel
theorem d_T_passOn_37 : decode cc_T_passOn 37 = .ok (.getfield 22, 3) := by decide +kernel
theorem d_T_passOn_40 : decode cc_T_passOn 40 = .ok (.iload_n 3, 1) := by decide +kernel
theorem d_T_passOn_41 : decode cc_T_passOn 41 = .ok (.iaload, 1) := by decide +kernel
theorem d_T_passOn_42 : decode cc_T_passOn 42 = .ok (.istore_n 3, 1) := by decide +kernel
theorem d_T_passOn_43 : decode cc_T_passOn 43 = .ok (.aload_n 0, 1) := by decide +kernel
theorem d_T_passOn_44 : decode cc_T_passOn 44 = .ok (.getfield 28, 3) := by decide +kernel
theorem d_T_passOn_47 : decode cc_T_passOn 47 = .ok (.iload_n 3, 1) := by decide +kernel
theorem d_T_passOn_48 : decode cc_T_passOn 48 = .ok (.dup2, 1) := by decide +kernel
theorem d_T_passOn_49 : decode cc_T_passOn 49 = .ok (.laload, 1) := by decide +kernel
theorem d_T_passOn_50 : decode cc_T_passOn 50 = .ok (.aload_n 0, 1) := by decide +kernel
theorem d_T_passOn_51 : decode cc_T_passOn 51 = .ok (.iload_n 2, 1) := by decide +kernel
theorem d_T_passOn_52 : decode cc_T_passOn 52 = .ok (.iload 4, 2) := by decide +kernel
theorem d_T_passOn_54 : decode cc_T_passOn 54 = .ok (.invokevirtual 142, 3) := by decide +kernel
theorem d_T_passOn_57 : decode cc_T_passOn 57 = .ok (.aload_n 0, 1) := by decide +kernel
theorem d_T_passOn_58 : decode cc_T_passOn 58 = .ok (.getfield 28, 3) := by decide +kernel
theorem d_T_passOn_61 : decode cc_T_passOn 61 = .ok (.iload_n 1, 1) := by decide +kernel
theorem d_T_passOn_62 : decode cc_T_passOn 62 = .ok (.laload, 1) := by decide +kernel
theorem d_T_passOn_63 : decode cc_T_passOn 63 = .ok (.lmul, 1) := by decide +kernel
theorem d_T_passOn_64 : decode cc_T_passOn 64 = .ok (.ladd, 1) := by decide +kernel
theorem d_T_passOn_65 : decode cc_T_passOn 65 = .ok (.lastore, 1) := by decide +kernel
theorem d_T_passOn_66 : decode cc_T_passOn 66 = .ok (.iinc 4 1, 3) := by decide +kernel
theorem d_T_passOn_69 : decode cc_T_passOn 69 = .ok (.goto (-44), 3) := by decide +kernel
theorem d_T_passOn_72 : decode cc_T_passOn 72 = .ok (.return_, 1) := by decide +kernel
def L_T_passOn_25 (Q : St → Prop) : Nat → Int32 → Int32 → Int32 → Int32 → St → Prop
  | 0, _, _, _, _, _ => False
  | n + 1, v1, v2, v3, v4, z0 => vp_in v1 1001 ∧ (((z0.1 11 v1.toNatClampNeg) < v4) → Q z0) ∧ ((¬ (z0.1 11 v1.toNatClampNeg) < v4) → vp_in v3 1001 ∧ ∀ x3 : Int32, x3 = (z0.1 13 v3.toNatClampNeg) → vp_in x3 1001 ∧ P_T_choose v2 v4 z0 (fun (x5 : Int64) (z4 : St) => vp_in v1 1001 ∧ vp_in x3 1001 ∧ ∀ z6 : St, z6 = wL z4 15 x3.toNatClampNeg ((z0.2 15 x3.toNatClampNeg) + (x5 * (z4.2 15 v1.toNatClampNeg))) → ∀ x7 : Int32, x7 = v4 + 1 → L_T_passOn_25 Q n v1 v2 x3 x7 z6))
def P_T_passOn (a1 : Int32) (a2 : Int32) (z0 : St) (Q : St → Prop) : Prop := vp_in a1 1001 ∧ ∀ x1 : Int32, x1 = (z0.1 12 a1.toNatClampNeg) → vp_in x1 1001 ∧ vp_in a1 1001 ∧ vp_in x1 1001 ∧ ∀ z2 : St, z2 = wL z0 15 x1.toNatClampNeg ((z0.2 15 x1.toNatClampNeg) + (z0.2 15 a1.toNatClampNeg)) → ∃ k25 : Nat, L_T_passOn_25 Q k25 a1 a2 x1 (1 : Int32) z2
set_option maxHeartbeats 4000000 in
set_option maxRecDepth 100000 in
theorem wL_T_passOn_25 {Q : St → Prop} (E : En p l s m meth c args cc_T_passOn 5 R_T none G) :
    ∀ (n : Nat) (v1 : Int32) (v2 : Int32) (v3 : Int32) (v4 : Int32) (z0 : St) (ls : Array Slot) (H : Heap) (locs : List Loc), L_T_passOn_25 Q n v1 v2 v3 v4 z0 → lv_has ls 5 [(0, .ref (ha G 9)), (1, .int v1), (2, .int v2), (3, .int v3), (4, .int v4)] → Wd G z0 s.heap H locs → W p l e rm_T_passOn s m args below meth c H locs 0 0 (MQ below (QvR Q G) args s 0 0 (fr G)) (F0 m 25 ls []) := by
  obtain ⟨hx, hb, hml, hown, hr, hlk, hex, hE⟩ := id E
  intro n
  induction n with
  | zero => exact fun _ _ _ _ _ _ _ _ hP _ _ => hP.elim
  | succ n ih =>
    intro v1 v2 v3 v4 z0 ls H locs hP hl hW
    refine lv_iload hx hb d_T_passOn_25 (lv_at hl 4 rfl) ?_
    refine lv_aload_n hx hb d_T_passOn_27 rfl (lv_at hl 0 rfl) ?_
    refine ygf_9_2 hx hb hown hE hW (lk_T_15 hE) d_T_passOn_28 ?_
    refine lv_iload_n hx hb d_T_passOn_31 rfl (lv_at hl 1 rfl) ?_
    refine ya_11 hx hb hE hW hP.1 d_T_passOn_32 ?_
    have hP := hP.2
    refine lv_icmp_gt (tgt := 72) hx hb d_T_passOn_33 rfl (fun hc => ?_) (fun hc => ?_)
    · have hP := hP.1 hc
      exact yr_v hx hb hr hlk hW hP d_T_passOn_72
    · have hP := hP.2 hc
      refine lv_aload_n hx hb d_T_passOn_36 rfl (lv_at hl 0 rfl) ?_
      refine ygf_9_4 hx hb hown hE hW (lk_T_22 hE) d_T_passOn_37 ?_
      refine lv_iload_n hx hb d_T_passOn_40 rfl (lv_at hl 3 rfl) ?_
      refine ya_13 hx hb hE hW hP.1 d_T_passOn_41 ?_
      have hP := hP.2
      refine lv_topi (fun x3 e_x3 => ?_)
      have hP := hP x3 e_x3
      refine lv_istore_n (lv' := [(3, .int x3), (0, .ref (ha G 9)), (1, .int v1), (2, .int v2), (4, .int v4)]) hx hb d_T_passOn_42 rfl hl (by decide) rfl (fun ls hl => ?_)
      refine lv_aload_n hx hb d_T_passOn_43 rfl (lv_at hl 1 rfl) ?_
      refine ygf_9_6 hx hb hown hE hW (lk_T_28 hE) d_T_passOn_44 ?_
      refine lv_iload_n hx hb d_T_passOn_47 rfl (lv_at hl 0 rfl) ?_
      refine lv_dup2_11 hx hb d_T_passOn_48 rfl rfl ?_
      refine ya_15 hx hb hE hW hP.1 d_T_passOn_49 ?_
      have hP := hP.2
      refine lv_aload_n hx hb d_T_passOn_50 rfl (lv_at hl 1 rfl) ?_
      refine lv_iload_n hx hb d_T_passOn_51 rfl (lv_at hl 3 rfl) ?_
      refine lv_iload hx hb d_T_passOn_52 (lv_at hl 4 rfl) ?_
      refine yc_l (yV (As := [.int v2, .int v4]) (rest := [.long (z0.2 15 x3.toNatClampNeg), .int x3, .ref (ha G 15)]) E (c_T_choose _ _ _ _ hP) (cw_T_142 hE) (yrv_9 hE hW) (by decide) hW hl.1 rfl rfl rfl d_T_passOn_54) hW (fun x5 z4 H locs hP hW => ?_)
      refine lv_aload_n hx hb d_T_passOn_57 rfl (lv_at hl 1 rfl) ?_
      refine ygf_9_6 hx hb hown hE hW (lk_T_28 hE) d_T_passOn_58 ?_
      refine lv_iload_n hx hb d_T_passOn_61 rfl (lv_at hl 2 rfl) ?_
      refine ya_15 hx hb hE hW hP.1 d_T_passOn_62 ?_
      have hP := hP.2
      refine lv_lmul hx hb d_T_passOn_63 ?_
      refine lv_ladd hx hb d_T_passOn_64 ?_
      refine ys_15 hx hb hE hW hP.1 d_T_passOn_65 (fun z6 H locs e_z6 hW => ?_)
      have hP := hP.2
      have hP := hP z6 e_z6
      obtain ⟨x7, e_x7⟩ : ∃ z : Int32, z = v4 + 1 := ⟨_, rfl⟩
      have hP := hP x7 e_x7
      refine lv_iinc (k := 4) (lv' := [(4, .int x7), (3, .int x3), (0, .ref (ha G 9)), (1, .int v1), (2, .int v2)]) hx hb d_T_passOn_66 hl rfl (ii_p1 e_x7) (by decide) rfl (fun ls hl => ?_)
      refine lv_goto (tgt := 25) hx hb d_T_passOn_69 rfl ?_
      exact ih _ _ _ _ _ _ _ _ hP (lv_sub hl [2, 3, 4, 1, 0] rfl) hW
set_option maxHeartbeats 4000000 in
set_option maxRecDepth 100000 in
theorem c_T_passOn {l : Launch} {G : GG} (a1 : Int32) (a2 : Int32) (z0 : St) (Q : St → Prop) (hP : P_T_passOn a1 a2 z0 Q) : Ctv l y_T_passOn cc_T_passOn 5 none rm_T_passOn G [.ref (ha G 9), .int a1, .int a2] z0 Q := by
  refine Ctv.op (own := R_T) (by decide) rfl (Nat.le_of_ble_eq_true rfl) (fun p e s m args below meth c ls E hl hW => ?_)
  obtain ⟨hx, hb, hml, hown, hr, hlk, hex, hE⟩ := id E
  have hl : lv_has ls 5 [(0, .ref (ha G 9)), (1, .int a1), (2, .int a2)] := hl
  refine lv_aload_n hx hb d_T_passOn_0 rfl (lv_at hl 0 rfl) ?_
  refine ygf_9_3 hx hb hown hE hW (lk_T_19 hE) d_T_passOn_1 ?_
  refine lv_iload_n hx hb d_T_passOn_4 rfl (lv_at hl 1 rfl) ?_
  refine ya_12 hx hb hE hW hP.1 d_T_passOn_5 ?_
  have hP := hP.2
  refine lv_topi (fun x1 e_x1 => ?_)
  have hP := hP x1 e_x1
  refine lv_istore_n (lv' := [(3, .int x1), (0, .ref (ha G 9)), (1, .int a1), (2, .int a2)]) hx hb d_T_passOn_6 rfl hl (by decide) rfl (fun ls hl => ?_)
  refine lv_aload_n hx hb d_T_passOn_7 rfl (lv_at hl 1 rfl) ?_
  refine ygf_9_6 hx hb hown hE hW (lk_T_28 hE) d_T_passOn_8 ?_
  refine lv_iload_n hx hb d_T_passOn_11 rfl (lv_at hl 0 rfl) ?_
  refine lv_dup2_11 hx hb d_T_passOn_12 rfl rfl ?_
  refine ya_15 hx hb hE hW hP.1 d_T_passOn_13 ?_
  have hP := hP.2
  refine lv_aload_n hx hb d_T_passOn_14 rfl (lv_at hl 1 rfl) ?_
  refine ygf_9_6 hx hb hown hE hW (lk_T_28 hE) d_T_passOn_15 ?_
  refine lv_iload_n hx hb d_T_passOn_18 rfl (lv_at hl 2 rfl) ?_
  refine ya_15 hx hb hE hW hP.1 d_T_passOn_19 ?_
  have hP := hP.2
  refine lv_ladd hx hb d_T_passOn_20 ?_
  refine ys_15 hx hb hE hW hP.1 d_T_passOn_21 (fun z2 H locs e_z2 hW => ?_)
  have hP := hP.2
  have hP := hP z2 e_z2
  refine lv_iconst (v := 1) hx hb d_T_passOn_22 (by decide) ?_
  refine lv_istore (lv' := [(4, .int (1 : Int32)), (3, .int x1), (0, .ref (ha G 9)), (1, .int a1), (2, .int a2)]) hx hb d_T_passOn_23 hl (by decide) rfl (fun ls hl => ?_)
  obtain ⟨n2, hP⟩ := hP
  refine wL_T_passOn_25 E n2 _ _ _ _ _ _ _ _ hP (lv_sub hl [2, 3, 4, 1, 0] rfl) hW
theorem d_T_countBehind_0 : decode cc_T_countBehind 0 = .ok (.aload_n 0, 1) := by decide +kernel
theorem d_T_countBehind_1 : decode cc_T_countBehind 1 = .ok (.getfield 28, 3) := by decide +kernel
theorem d_T_countBehind_4 : decode cc_T_countBehind 4 = .ok (.lconst 0, 1) := by decide +kernel
theorem d_T_countBehind_5 : decode cc_T_countBehind 5 = .ok (.invokestatic 145, 3) := by decide +kernel
theorem d_T_countBehind_8 : decode cc_T_countBehind 8 = .ok (.aload_n 0, 1) := by decide +kernel
theorem d_T_countBehind_9 : decode cc_T_countBehind 9 = .ok (.getfield 28, 3) := by decide +kernel
theorem d_T_countBehind_12 : decode cc_T_countBehind 12 = .ok (.iconst 0, 1) := by decide +kernel
theorem d_T_countBehind_13 : decode cc_T_countBehind 13 = .ok (.lconst 1, 1) := by decide +kernel
theorem d_T_countBehind_14 : decode cc_T_countBehind 14 = .ok (.lastore, 1) := by decide +kernel
theorem d_T_countBehind_15 : decode cc_T_countBehind 15 = .ok (.iconst 0, 1) := by decide +kernel
theorem d_T_countBehind_16 : decode cc_T_countBehind 16 = .ok (.istore_n 1, 1) := by decide +kernel
theorem d_T_countBehind_17 : decode cc_T_countBehind 17 = .ok (.iload_n 1, 1) := by decide +kernel
theorem d_T_countBehind_18 : decode cc_T_countBehind 18 = .ok (.aload_n 0, 1) := by decide +kernel
theorem d_T_countBehind_19 : decode cc_T_countBehind 19 = .ok (.getfield 51, 3) := by decide +kernel
theorem d_T_countBehind_22 : decode cc_T_countBehind 22 = .ok (.getfield 71, 3) := by decide +kernel
theorem d_T_countBehind_25 : decode cc_T_countBehind 25 = .ok (.if_icmp .ge 48, 3) := by decide +kernel
theorem d_T_countBehind_28 : decode cc_T_countBehind 28 = .ok (.aload_n 0, 1) := by decide +kernel
theorem d_T_countBehind_29 : decode cc_T_countBehind 29 = .ok (.getfield 34, 3) := by decide +kernel
theorem d_T_countBehind_32 : decode cc_T_countBehind 32 = .ok (.iload_n 1, 1) := by decide +kernel
theorem d_T_countBehind_33 : decode cc_T_countBehind 33 = .ok (.iaload, 1) := by decide +kernel
theorem d_T_countBehind_34 : decode cc_T_countBehind 34 = .ok (.istore_n 2, 1) := by decide +kernel
theorem d_T_countBehind_35 : decode cc_T_countBehind 35 = .ok (.iload_n 2, 1) := by decide +kernel
theorem d_T_countBehind_36 : decode cc_T_countBehind 36 = .ok (.aload_n 0, 1) := by decide +kernel
theorem d_T_countBehind_37 : decode cc_T_countBehind 37 = .ok (.getfield 34, 3) := by decide +kernel
theorem d_T_countBehind_40 : decode cc_T_countBehind 40 = .ok (.iload_n 1, 1) := by decide +kernel
theorem d_T_countBehind_41 : decode cc_T_countBehind 41 = .ok (.iconst 1, 1) := by decide +kernel
theorem d_T_countBehind_42 : decode cc_T_countBehind 42 = .ok (.iadd, 1) := by decide +kernel
theorem d_T_countBehind_43 : decode cc_T_countBehind 43 = .ok (.iaload, 1) := by decide +kernel
theorem d_T_countBehind_44 : decode cc_T_countBehind 44 = .ok (.if_icmp .ge 23, 3) := by decide +kernel
theorem d_T_countBehind_47 : decode cc_T_countBehind 47 = .ok (.aload_n 0, 1) := by decide +kernel
theorem d_T_countBehind_48 : decode cc_T_countBehind 48 = .ok (.iload_n 2, 1) := by decide +kernel
theorem d_T_countBehind_49 : decode cc_T_countBehind 49 = .ok (.aload_n 0, 1) := by decide +kernel
theorem d_T_countBehind_50 : decode cc_T_countBehind 50 = .ok (.getfield 51, 3) := by decide +kernel
theorem d_T_countBehind_53 : decode cc_T_countBehind 53 = .ok (.getfield 87, 3) := by decide +kernel
theorem d_T_countBehind_56 : decode cc_T_countBehind 56 = .ok (.iload_n 1, 1) := by decide +kernel
theorem d_T_countBehind_57 : decode cc_T_countBehind 57 = .ok (.iaload, 1) := by decide +kernel
theorem d_T_countBehind_58 : decode cc_T_countBehind 58 = .ok (.invokevirtual 148, 3) := by decide +kernel
theorem d_T_countBehind_61 : decode cc_T_countBehind 61 = .ok (.iinc 2 1, 3) := by decide +kernel
theorem d_T_countBehind_64 : decode cc_T_countBehind 64 = .ok (.goto (-29), 3) := by decide +kernel
theorem d_T_countBehind_67 : decode cc_T_countBehind 67 = .ok (.iinc 1 1, 3) := by decide +kernel
theorem d_T_countBehind_70 : decode cc_T_countBehind 70 = .ok (.goto (-53), 3) := by decide +kernel
theorem d_T_countBehind_73 : decode cc_T_countBehind 73 = .ok (.return_, 1) := by decide +kernel
def L_T_countBehind_35 (K67 : Int32 → St → Prop) (Q : St → Prop) : Nat → Int32 → Int32 → St → Prop
  | 0, _, _, _ => False
  | n + 1, v1, v2, z0 => vp_in (v1 + (1 : Int32)) 17 ∧ (((z0.1 17 (v1 + (1 : Int32)).toNatClampNeg) ≤ v2) → K67 v1 z0) ∧ ((¬ (z0.1 17 (v1 + (1 : Int32)).toNatClampNeg) ≤ v2) → vp_in v1 16 ∧ P_T_passOn v2 (z0.1 5 v1.toNatClampNeg) z0 (fun (z4 : St) => ∀ x5 : Int32, x5 = v2 + 1 → L_T_countBehind_35 K67 Q n v1 x5 z4))
def L_T_countBehind_17 (Q : St → Prop) : Nat → Int32 → St → Prop
  | 0, _, _ => False
  | n + 1, v1, z0 => (((z0.1 1 5) ≤ v1) → Q z0) ∧ ((¬ (z0.1 1 5) ≤ v1) → vp_in v1 17 ∧ ∀ x3 : Int32, x3 = (z0.1 17 v1.toNatClampNeg) → ∃ k35 : Nat, L_T_countBehind_35 (fun (x6 : Int32) (z7 : St) => ∀ x8 : Int32, x8 = x6 + 1 → L_T_countBehind_17 Q n x8 z7) Q k35 v1 x3 z0)
def P_T_countBehind (z0 : St) (Q : St → Prop) : Prop := P_A_fill2 (0 : Int64) z0 (fun (z1 : St) => vp_in (0 : Int32) 1001 ∧ ∀ z2 : St, z2 = wL z1 15 (0 : Int32).toNatClampNeg (1 : Int64) → ∃ k17 : Nat, L_T_countBehind_17 Q k17 (0 : Int32) z2)
set_option maxHeartbeats 4000000 in
set_option maxRecDepth 100000 in
theorem wL_T_countBehind_35 {K67 : Int32 → St → Prop} {Q : St → Prop} (E : En p l s m meth c args cc_T_countBehind 3 R_T none G)
    (hK67 : ∀ (v1 : Int32) (z0 : St) (ls : Array Slot) (H : Heap) (locs : List Loc), K67 v1 z0 → lv_has ls 3 [(0, .ref (ha G 9)), (1, .int v1)] → Wd G z0 s.heap H locs → W p l e rm_T_countBehind s m args below meth c H locs 0 0 (MQ below (QvR Q G) args s 0 0 (fr G)) (F0 m 67 ls [])) :
    ∀ (n : Nat) (v1 : Int32) (v2 : Int32) (z0 : St) (ls : Array Slot) (H : Heap) (locs : List Loc), L_T_countBehind_35 K67 Q n v1 v2 z0 → lv_has ls 3 [(0, .ref (ha G 9)), (1, .int v1), (2, .int v2)] → Wd G z0 s.heap H locs → W p l e rm_T_countBehind s m args below meth c H locs 0 0 (MQ below (QvR Q G) args s 0 0 (fr G)) (F0 m 35 ls []) := by
  obtain ⟨hx, hb, hml, hown, hr, hlk, hex, hE⟩ := id E
  intro n
  induction n with
  | zero => exact fun _ _ _ _ _ _ hP _ _ => hP.elim
  | succ n ih =>
    intro v1 v2 z0 ls H locs hP hl hW
    refine lv_iload_n hx hb d_T_countBehind_35 rfl (lv_at hl 2 rfl) ?_
    refine lv_aload_n hx hb d_T_countBehind_36 rfl (lv_at hl 0 rfl) ?_
    refine ygf_9_8 hx hb hown hE hW (lk_T_34 hE) d_T_countBehind_37 ?_
    refine lv_iload_n hx hb d_T_countBehind_40 rfl (lv_at hl 1 rfl) ?_
    refine lv_iconst (v := 1) hx hb d_T_countBehind_41 (by decide) ?_
    refine lv_iadd hx hb d_T_countBehind_42 ?_
    refine ya_17 hx hb hE hW hP.1 d_T_countBehind_43 ?_
    have hP := hP.2
    refine lv_icmp_ge (tgt := 67) hx hb d_T_countBehind_44 rfl (fun hc => ?_) (fun hc => ?_)
    · have hP := hP.1 hc
      exact hK67 _ _ _ _ _ hP (lv_sub hl [0, 1] rfl) hW
    · have hP := hP.2 hc
      refine lv_aload_n hx hb d_T_countBehind_47 rfl (lv_at hl 0 rfl) ?_
      refine lv_iload_n hx hb d_T_countBehind_48 rfl (lv_at hl 2 rfl) ?_
      refine lv_aload_n hx hb d_T_countBehind_49 rfl (lv_at hl 0 rfl) ?_
      refine ygf_9_0 hx hb hown hE hW (lk_T_51 hE) d_T_countBehind_50 ?_
      refine ygn_1_3 hx hb hown hE hW (lk_T_87 hE) d_T_countBehind_53 ?_
      refine lv_iload_n hx hb d_T_countBehind_56 rfl (lv_at hl 1 rfl) ?_
      refine ya_5 hx hb hE hW hP.1 d_T_countBehind_57 ?_
      have hP := hP.2
      refine yc_v (yV (As := [.int v2, .int (z0.1 5 v1.toNatClampNeg)]) (rest := []) E (c_T_passOn _ _ _ _ hP) (cw_T_148 hE) (yrv_9 hE hW) (by decide) hW hl.1 rfl rfl rfl d_T_countBehind_58) hW (fun z4 H locs hP hW => ?_)
      obtain ⟨x5, e_x5⟩ : ∃ z : Int32, z = v2 + 1 := ⟨_, rfl⟩
      have hP := hP x5 e_x5
      refine lv_iinc (k := 2) (lv' := [(2, .int x5), (0, .ref (ha G 9)), (1, .int v1)]) hx hb d_T_countBehind_61 hl rfl (ii_p1 e_x5) (by decide) rfl (fun ls hl => ?_)
      refine lv_goto (tgt := 35) hx hb d_T_countBehind_64 rfl ?_
      exact ih _ _ _ _ _ _ hP (lv_sub hl [1, 2, 0] rfl) hW
set_option maxHeartbeats 4000000 in
set_option maxRecDepth 100000 in
theorem wL_T_countBehind_17 {Q : St → Prop} (E : En p l s m meth c args cc_T_countBehind 3 R_T none G) :
    ∀ (n : Nat) (v1 : Int32) (z0 : St) (ls : Array Slot) (H : Heap) (locs : List Loc), L_T_countBehind_17 Q n v1 z0 → lv_has ls 3 [(0, .ref (ha G 9)), (1, .int v1)] → Wd G z0 s.heap H locs → W p l e rm_T_countBehind s m args below meth c H locs 0 0 (MQ below (QvR Q G) args s 0 0 (fr G)) (F0 m 17 ls []) := by
  obtain ⟨hx, hb, hml, hown, hr, hlk, hex, hE⟩ := id E
  intro n
  induction n with
  | zero => exact fun _ _ _ _ _ hP _ _ => hP.elim
  | succ n ih =>
    intro v1 z0 ls H locs hP hl hW
    refine lv_iload_n hx hb d_T_countBehind_17 rfl (lv_at hl 1 rfl) ?_
    refine lv_aload_n hx hb d_T_countBehind_18 rfl (lv_at hl 0 rfl) ?_
    refine ygf_9_0 hx hb hown hE hW (lk_T_51 hE) d_T_countBehind_19 ?_
    refine ygn_1_5 hx hb hown hE hW (lk_T_71 hE) d_T_countBehind_22 ?_
    refine lv_icmp_ge (tgt := 73) hx hb d_T_countBehind_25 rfl (fun hc => ?_) (fun hc => ?_)
    · have hP := hP.1 hc
      exact yr_v hx hb hr hlk hW hP d_T_countBehind_73
    · have hP := hP.2 hc
      refine lv_aload_n hx hb d_T_countBehind_28 rfl (lv_at hl 0 rfl) ?_
      refine ygf_9_8 hx hb hown hE hW (lk_T_34 hE) d_T_countBehind_29 ?_
      refine lv_iload_n hx hb d_T_countBehind_32 rfl (lv_at hl 1 rfl) ?_
      refine ya_17 hx hb hE hW hP.1 d_T_countBehind_33 ?_
      have hP := hP.2
      refine lv_topi (fun x3 e_x3 => ?_)
      have hP := hP x3 e_x3
      refine lv_istore_n (lv' := [(2, .int x3), (0, .ref (ha G 9)), (1, .int v1)]) hx hb d_T_countBehind_34 rfl hl (by decide) rfl (fun ls hl => ?_)
      obtain ⟨n2, hP⟩ := hP
      refine wL_T_countBehind_35 E ?_ n2 _ _ _ _ _ _ hP (lv_sub hl [1, 2, 0] rfl) hW
      · intro x6 z7 ls H locs hP hl hW
        obtain ⟨x8, e_x8⟩ : ∃ z : Int32, z = x6 + 1 := ⟨_, rfl⟩
        have hP := hP x8 e_x8
        refine lv_iinc (k := 1) (lv' := [(1, .int x8), (0, .ref (ha G 9))]) hx hb d_T_countBehind_67 hl rfl (ii_p1 e_x8) (by decide) rfl (fun ls hl => ?_)
        refine lv_goto (tgt := 17) hx hb d_T_countBehind_70 rfl ?_
        exact ih _ _ _ _ _ hP (lv_sub hl [1, 0] rfl) hW
set_option maxHeartbeats 4000000 in
set_option maxRecDepth 100000 in
theorem c_T_countBehind {l : Launch} {G : GG} (z0 : St) (Q : St → Prop) (hP : P_T_countBehind z0 Q) : Ctv l y_T_countBehind cc_T_countBehind 3 none rm_T_countBehind G [.ref (ha G 9)] z0 Q := by
  refine Ctv.op (own := R_T) (by decide) rfl (Nat.le_of_ble_eq_true rfl) (fun p e s m args below meth c ls E hl hW => ?_)
  obtain ⟨hx, hb, hml, hown, hr, hlk, hex, hE⟩ := id E
  have hl : lv_has ls 3 [(0, .ref (ha G 9))] := hl
  refine lv_aload_n hx hb d_T_countBehind_0 rfl (lv_at hl 0 rfl) ?_
  refine ygf_9_6 hx hb hown hE hW (lk_T_28 hE) d_T_countBehind_1 ?_
  refine lv_lconst (v := 0) hx hb d_T_countBehind_4 (by decide) ?_
  refine yc_v (yS (As := [.ref (ha G 15), .long (0 : Int64)]) (rest := []) E (c_A_fill2 _ _ _ hP) (cw_T_145 hE) (by decide) hW hl.1 rfl rfl rfl d_T_countBehind_5) hW (fun z1 H locs hP hW => ?_)
  refine lv_aload_n hx hb d_T_countBehind_8 rfl (lv_at hl 0 rfl) ?_
  refine ygf_9_6 hx hb hown hE hW (lk_T_28 hE) d_T_countBehind_9 ?_
  refine lv_iconst (v := 0) hx hb d_T_countBehind_12 (by decide) ?_
  refine lv_lconst (v := 1) hx hb d_T_countBehind_13 (by decide) ?_
  refine ys_15 hx hb hE hW hP.1 d_T_countBehind_14 (fun z2 H locs e_z2 hW => ?_)
  have hP := hP.2
  have hP := hP z2 e_z2
  refine lv_iconst (v := 0) hx hb d_T_countBehind_15 (by decide) ?_
  refine lv_istore_n (lv' := [(1, .int (0 : Int32)), (0, .ref (ha G 9))]) hx hb d_T_countBehind_16 rfl hl (by decide) rfl (fun ls hl => ?_)
  obtain ⟨n2, hP⟩ := hP
  refine wL_T_countBehind_17 E n2 _ _ _ _ _ hP (lv_sub hl [1, 0] rfl) hW
theorem d_T_panelsWithOneOf_0 : decode cc_T_panelsWithOneOf 0 = .ok (.aload_n 0, 1) := by decide +kernel
theorem d_T_panelsWithOneOf_1 : decode cc_T_panelsWithOneOf 1 = .ok (.getfield 48, 3) := by decide +kernel
theorem d_T_panelsWithOneOf_4 : decode cc_T_panelsWithOneOf 4 = .ok (.ifCond .ne 12, 3) := by decide +kernel
theorem d_T_panelsWithOneOf_7 : decode cc_T_panelsWithOneOf 7 = .ok (.aload_n 0, 1) := by decide +kernel
theorem d_T_panelsWithOneOf_8 : decode cc_T_panelsWithOneOf 8 = .ok (.invokevirtual 84, 3) := by decide +kernel
theorem d_T_panelsWithOneOf_11 : decode cc_T_panelsWithOneOf 11 = .ok (.aload_n 0, 1) := by decide +kernel
theorem d_T_panelsWithOneOf_12 : decode cc_T_panelsWithOneOf 12 = .ok (.iconst 1, 1) := by decide +kernel
theorem d_T_panelsWithOneOf_13 : decode cc_T_panelsWithOneOf 13 = .ok (.putfield 48, 3) := by decide +kernel
theorem d_T_panelsWithOneOf_16 : decode cc_T_panelsWithOneOf 16 = .ok (.lconst 0, 1) := by decide +kernel
theorem d_T_panelsWithOneOf_17 : decode cc_T_panelsWithOneOf 17 = .ok (.lstore_n 2, 1) := by decide +kernel
theorem d_T_panelsWithOneOf_18 : decode cc_T_panelsWithOneOf 18 = .ok (.aload_n 0, 1) := by decide +kernel
theorem d_T_panelsWithOneOf_19 : decode cc_T_panelsWithOneOf 19 = .ok (.getfield 34, 3) := by decide +kernel
theorem d_T_panelsWithOneOf_22 : decode cc_T_panelsWithOneOf 22 = .ok (.iload_n 1, 1) := by decide +kernel
theorem d_T_panelsWithOneOf_23 : decode cc_T_panelsWithOneOf 23 = .ok (.iaload, 1) := by decide +kernel
theorem d_T_panelsWithOneOf_24 : decode cc_T_panelsWithOneOf 24 = .ok (.istore 4, 2) := by decide +kernel
theorem d_T_panelsWithOneOf_26 : decode cc_T_panelsWithOneOf 26 = .ok (.iload 4, 2) := by decide +kernel
theorem d_T_panelsWithOneOf_28 : decode cc_T_panelsWithOneOf 28 = .ok (.aload_n 0, 1) := by decide +kernel
theorem d_T_panelsWithOneOf_29 : decode cc_T_panelsWithOneOf 29 = .ok (.getfield 34, 3) := by decide +kernel
theorem d_T_panelsWithOneOf_32 : decode cc_T_panelsWithOneOf 32 = .ok (.iload_n 1, 1) := by decide +kernel
theorem d_T_panelsWithOneOf_33 : decode cc_T_panelsWithOneOf 33 = .ok (.iconst 1, 1) := by decide +kernel
theorem d_T_panelsWithOneOf_34 : decode cc_T_panelsWithOneOf 34 = .ok (.iadd, 1) := by decide +kernel
theorem d_T_panelsWithOneOf_35 : decode cc_T_panelsWithOneOf 35 = .ok (.iaload, 1) := by decide +kernel
theorem d_T_panelsWithOneOf_36 : decode cc_T_panelsWithOneOf 36 = .ok (.if_icmp .ge 35, 3) := by decide +kernel
theorem d_T_panelsWithOneOf_39 : decode cc_T_panelsWithOneOf 39 = .ok (.lload_n 2, 1) := by decide +kernel
theorem d_T_panelsWithOneOf_40 : decode cc_T_panelsWithOneOf 40 = .ok (.aload_n 0, 1) := by decide +kernel
theorem d_T_panelsWithOneOf_41 : decode cc_T_panelsWithOneOf 41 = .ok (.getfield 28, 3) := by decide +kernel
theorem d_T_panelsWithOneOf_44 : decode cc_T_panelsWithOneOf 44 = .ok (.iload 4, 2) := by decide +kernel
theorem d_T_panelsWithOneOf_46 : decode cc_T_panelsWithOneOf 46 = .ok (.laload, 1) := by decide +kernel
theorem d_T_panelsWithOneOf_47 : decode cc_T_panelsWithOneOf 47 = .ok (.aload_n 0, 1) := by decide +kernel
theorem d_T_panelsWithOneOf_48 : decode cc_T_panelsWithOneOf 48 = .ok (.iload 4, 2) := by decide +kernel
theorem d_T_panelsWithOneOf_50 : decode cc_T_panelsWithOneOf 50 = .ok (.aload_n 0, 1) := by decide +kernel
theorem d_T_panelsWithOneOf_51 : decode cc_T_panelsWithOneOf 51 = .ok (.getfield 51, 3) := by decide +kernel
theorem d_T_panelsWithOneOf_54 : decode cc_T_panelsWithOneOf 54 = .ok (.getfield 87, 3) := by decide +kernel
theorem d_T_panelsWithOneOf_57 : decode cc_T_panelsWithOneOf 57 = .ok (.iload_n 1, 1) := by decide +kernel
theorem d_T_panelsWithOneOf_58 : decode cc_T_panelsWithOneOf 58 = .ok (.iaload, 1) := by decide +kernel
theorem d_T_panelsWithOneOf_59 : decode cc_T_panelsWithOneOf 59 = .ok (.invokevirtual 90, 3) := by decide +kernel
theorem d_T_panelsWithOneOf_62 : decode cc_T_panelsWithOneOf 62 = .ok (.lmul, 1) := by decide +kernel
theorem d_T_panelsWithOneOf_63 : decode cc_T_panelsWithOneOf 63 = .ok (.ladd, 1) := by decide +kernel
theorem d_T_panelsWithOneOf_64 : decode cc_T_panelsWithOneOf 64 = .ok (.lstore_n 2, 1) := by decide +kernel
theorem d_T_panelsWithOneOf_65 : decode cc_T_panelsWithOneOf 65 = .ok (.iinc 4 1, 3) := by decide +kernel
theorem d_T_panelsWithOneOf_68 : decode cc_T_panelsWithOneOf 68 = .ok (.goto (-42), 3) := by decide +kernel
theorem d_T_panelsWithOneOf_71 : decode cc_T_panelsWithOneOf 71 = .ok (.lload_n 2, 1) := by decide +kernel
theorem d_T_panelsWithOneOf_72 : decode cc_T_panelsWithOneOf 72 = .ok (.lreturn, 1) := by decide +kernel
def L_T_panelsWithOneOf_26 (Q : Int64 → St → Prop) : Nat → Int32 → Int64 → Int32 → St → Prop
  | 0, _, _, _, _ => False
  | n + 1, v1, v2, v4, z0 => vp_in (v1 + (1 : Int32)) 17 ∧ (((z0.1 17 (v1 + (1 : Int32)).toNatClampNeg) ≤ v4) → Q v2 z0) ∧ ((¬ (z0.1 17 (v1 + (1 : Int32)).toNatClampNeg) ≤ v4) → vp_in v4 1001 ∧ vp_in v1 16 ∧ P_T_aheadWithOneOf v4 (z0.1 5 v1.toNatClampNeg) z0 (fun (x3 : Int64) (z2 : St) => ∀ x4 : Int64, x4 = v2 + ((z0.2 15 v4.toNatClampNeg) * x3) → ∀ x5 : Int32, x5 = v4 + 1 → L_T_panelsWithOneOf_26 Q n v1 x4 x5 z2))
def P_T_panelsWithOneOf (a1 : Int32) (z0 : St) (Q : Int64 → St → Prop) : Prop := ((¬ (z0.1 9 12) = 0) → vp_in a1 17 ∧ ∀ x1 : Int32, x1 = (z0.1 17 a1.toNatClampNeg) → ∃ k26 : Nat, L_T_panelsWithOneOf_26 Q k26 a1 (0 : Int64) x1 z0) ∧ (((z0.1 9 12) = 0) → P_T_countBehind z0 (fun (z6 : St) => ∀ z7 : St, z7 = wI z6 9 12 (1 : Int32) → vp_in a1 17 ∧ ∀ x8 : Int32, x8 = (z7.1 17 a1.toNatClampNeg) → ∃ k26 : Nat, L_T_panelsWithOneOf_26 Q k26 a1 (0 : Int64) x8 z7))
set_option maxHeartbeats 4000000 in
set_option maxRecDepth 100000 in
theorem wL_T_panelsWithOneOf_26 {Q : Int64 → St → Prop} (E : En p l s m meth c args cc_T_panelsWithOneOf 5 R_T (some .long) G) :
    ∀ (n : Nat) (v1 : Int32) (v2 : Int64) (v4 : Int32) (z0 : St) (ls : Array Slot) (H : Heap) (locs : List Loc), L_T_panelsWithOneOf_26 Q n v1 v2 v4 z0 → lv_has ls 5 [(0, .ref (ha G 9)), (1, .int v1), (2, .long v2), (4, .int v4)] → Wd G z0 s.heap H locs → W p l e rm_T_panelsWithOneOf s m args below meth c H locs 0 0 (MQ below (QlR Q G) args s 0 0 (fr G)) (F0 m 26 ls []) := by
  obtain ⟨hx, hb, hml, hown, hr, hlk, hex, hE⟩ := id E
  intro n
  induction n with
  | zero => exact fun _ _ _ _ _ _ _ hP _ _ => hP.elim
  | succ n ih =>
    intro v1 v2 v4 z0 ls H locs hP hl hW
    refine lv_iload hx hb d_T_panelsWithOneOf_26 (lv_at hl 3 rfl) ?_
    refine lv_aload_n hx hb d_T_panelsWithOneOf_28 rfl (lv_at hl 0 rfl) ?_
    refine ygf_9_8 hx hb hown hE hW (lk_T_34 hE) d_T_panelsWithOneOf_29 ?_
    refine lv_iload_n hx hb d_T_panelsWithOneOf_32 rfl (lv_at hl 1 rfl) ?_
    refine lv_iconst (v := 1) hx hb d_T_panelsWithOneOf_33 (by decide) ?_
    refine lv_iadd hx hb d_T_panelsWithOneOf_34 ?_
    refine ya_17 hx hb hE hW hP.1 d_T_panelsWithOneOf_35 ?_
    have hP := hP.2
    refine lv_icmp_ge (tgt := 71) hx hb d_T_panelsWithOneOf_36 rfl (fun hc => ?_) (fun hc => ?_)
    · have hP := hP.1 hc
      refine lv_lload_n hx hb d_T_panelsWithOneOf_71 rfl (lv_at hl 2 rfl) ?_
      exact yr_l hx hb hr hlk hW hP d_T_panelsWithOneOf_72
    · have hP := hP.2 hc
      refine lv_lload_n hx hb d_T_panelsWithOneOf_39 rfl (lv_at hl 2 rfl) ?_
      refine lv_aload_n hx hb d_T_panelsWithOneOf_40 rfl (lv_at hl 0 rfl) ?_
      refine ygf_9_6 hx hb hown hE hW (lk_T_28 hE) d_T_panelsWithOneOf_41 ?_
      refine lv_iload hx hb d_T_panelsWithOneOf_44 (lv_at hl 3 rfl) ?_
      refine ya_15 hx hb hE hW hP.1 d_T_panelsWithOneOf_46 ?_
      have hP := hP.2
      refine lv_aload_n hx hb d_T_panelsWithOneOf_47 rfl (lv_at hl 0 rfl) ?_
      refine lv_iload hx hb d_T_panelsWithOneOf_48 (lv_at hl 3 rfl) ?_
      refine lv_aload_n hx hb d_T_panelsWithOneOf_50 rfl (lv_at hl 0 rfl) ?_
      refine ygf_9_0 hx hb hown hE hW (lk_T_51 hE) d_T_panelsWithOneOf_51 ?_
      refine ygn_1_3 hx hb hown hE hW (lk_T_87 hE) d_T_panelsWithOneOf_54 ?_
      refine lv_iload_n hx hb d_T_panelsWithOneOf_57 rfl (lv_at hl 1 rfl) ?_
      refine ya_5 hx hb hE hW hP.1 d_T_panelsWithOneOf_58 ?_
      have hP := hP.2
      refine yc_l (yV (As := [.int v4, .int (z0.1 5 v1.toNatClampNeg)]) (rest := [.long (z0.2 15 v4.toNatClampNeg), .long v2]) E (c_T_aheadWithOneOf _ _ _ _ hP) (cw_T_90 hE) (yrv_9 hE hW) (by decide) hW hl.1 rfl rfl rfl d_T_panelsWithOneOf_59) hW (fun x3 z2 H locs hP hW => ?_)
      refine lv_lmul hx hb d_T_panelsWithOneOf_62 ?_
      refine lv_ladd hx hb d_T_panelsWithOneOf_63 ?_
      refine lv_topl (fun x4 e_x4 => ?_)
      have hP := hP x4 e_x4
      refine lv_lstore_n (lv' := [(2, .long x4), (0, .ref (ha G 9)), (1, .int v1), (4, .int v4)]) hx hb d_T_panelsWithOneOf_64 rfl hl (by decide) rfl (fun ls hl => ?_)
      obtain ⟨x5, e_x5⟩ : ∃ z : Int32, z = v4 + 1 := ⟨_, rfl⟩
      have hP := hP x5 e_x5
      refine lv_iinc (k := 3) (lv' := [(4, .int x5), (2, .long x4), (0, .ref (ha G 9)), (1, .int v1)]) hx hb d_T_panelsWithOneOf_65 hl rfl (ii_p1 e_x5) (by decide) rfl (fun ls hl => ?_)
      refine lv_goto (tgt := 26) hx hb d_T_panelsWithOneOf_68 rfl ?_
      exact ih _ _ _ _ _ _ _ hP (lv_sub hl [2, 3, 1, 0] rfl) hW
set_option maxHeartbeats 4000000 in
set_option maxRecDepth 100000 in
theorem c_T_panelsWithOneOf {l : Launch} {G : GG} (a1 : Int32) (z0 : St) (Q : Int64 → St → Prop) (hP : P_T_panelsWithOneOf a1 z0 Q) : Ctl l y_T_panelsWithOneOf cc_T_panelsWithOneOf 5 (some .long) rm_T_panelsWithOneOf G [.ref (ha G 9), .int a1] z0 Q := by
  refine Ctl.op (own := R_T) (by decide) rfl (Nat.le_of_ble_eq_true rfl) (fun p e s m args below meth c ls E hl hW => ?_)
  obtain ⟨hx, hb, hml, hown, hr, hlk, hex, hE⟩ := id E
  have hl : lv_has ls 5 [(0, .ref (ha G 9)), (1, .int a1)] := hl
  refine lv_aload_n hx hb d_T_panelsWithOneOf_0 rfl (lv_at hl 0 rfl) ?_
  refine ygf_9_12 hx hb hown hE hW (lk_T_48 hE) d_T_panelsWithOneOf_1 ?_
  refine lv_if_ne (tgt := 16) hx hb d_T_panelsWithOneOf_4 rfl (fun hc => ?_) (fun hc => ?_)
  · have hP := hP.1 hc
    refine lv_lconst (v := 0) hx hb d_T_panelsWithOneOf_16 (by decide) ?_
    refine lv_lstore_n (lv' := [(2, .long (0 : Int64)), (0, .ref (ha G 9)), (1, .int a1)]) hx hb d_T_panelsWithOneOf_17 rfl hl (by decide) rfl (fun ls hl => ?_)
    refine lv_aload_n hx hb d_T_panelsWithOneOf_18 rfl (lv_at hl 1 rfl) ?_
    refine ygf_9_8 hx hb hown hE hW (lk_T_34 hE) d_T_panelsWithOneOf_19 ?_
    refine lv_iload_n hx hb d_T_panelsWithOneOf_22 rfl (lv_at hl 2 rfl) ?_
    refine ya_17 hx hb hE hW hP.1 d_T_panelsWithOneOf_23 ?_
    have hP := hP.2
    refine lv_topi (fun x1 e_x1 => ?_)
    have hP := hP x1 e_x1
    refine lv_istore (lv' := [(4, .int x1), (2, .long (0 : Int64)), (0, .ref (ha G 9)), (1, .int a1)]) hx hb d_T_panelsWithOneOf_24 hl (by decide) rfl (fun ls hl => ?_)
    obtain ⟨n2, hP⟩ := hP
    refine wL_T_panelsWithOneOf_26 E n2 _ _ _ _ _ _ _ hP (lv_sub hl [2, 3, 1, 0] rfl) hW
  · have hP := hP.2 hc
    refine lv_aload_n hx hb d_T_panelsWithOneOf_7 rfl (lv_at hl 0 rfl) ?_
    refine yc_v (yV (As := []) (rest := []) E (c_T_countBehind _ _ hP) (cw_T_84 hE) (yrv_9 hE hW) (by decide) hW hl.1 rfl rfl rfl d_T_panelsWithOneOf_8) hW (fun z6 H locs hP hW => ?_)
    refine lv_aload_n hx hb d_T_panelsWithOneOf_11 rfl (lv_at hl 0 rfl) ?_
    refine lv_iconst (v := 1) hx hb d_T_panelsWithOneOf_12 (by decide) ?_
    refine ypf_9_12 hx hb hown hE hW zb_1 (lk_T_48 hE) d_T_panelsWithOneOf_13 (fun z7 H locs e_z7 hW => ?_)
    have hP := hP z7 e_z7
    refine lv_lconst (v := 0) hx hb d_T_panelsWithOneOf_16 (by decide) ?_
    refine lv_lstore_n (lv' := [(2, .long (0 : Int64)), (0, .ref (ha G 9)), (1, .int a1)]) hx hb d_T_panelsWithOneOf_17 rfl hl (by decide) rfl (fun ls hl => ?_)
    refine lv_aload_n hx hb d_T_panelsWithOneOf_18 rfl (lv_at hl 1 rfl) ?_
    refine ygf_9_8 hx hb hown hE hW (lk_T_34 hE) d_T_panelsWithOneOf_19 ?_
    refine lv_iload_n hx hb d_T_panelsWithOneOf_22 rfl (lv_at hl 2 rfl) ?_
    refine ya_17 hx hb hE hW hP.1 d_T_panelsWithOneOf_23 ?_
    have hP := hP.2
    refine lv_topi (fun x8 e_x8 => ?_)
    have hP := hP x8 e_x8
    refine lv_istore (lv' := [(4, .int x8), (2, .long (0 : Int64)), (0, .ref (ha G 9)), (1, .int a1)]) hx hb d_T_panelsWithOneOf_24 hl (by decide) rfl (fun ls hl => ?_)
    obtain ⟨n2, hP⟩ := hP
    refine wL_T_panelsWithOneOf_26 E n2 _ _ _ _ _ _ _ hP (lv_sub hl [2, 3, 1, 0] rfl) hW
theorem d_O_chance_0 : decode cc_O_chance 0 = .ok (.aload_n 0, 1) := by decide +kernel
theorem d_O_chance_1 : decode cc_O_chance 1 = .ok (.iload_n 1, 1) := by decide +kernel
theorem d_O_chance_2 : decode cc_O_chance 2 = .ok (.invokevirtual 155, 3) := by decide +kernel
theorem d_O_chance_5 : decode cc_O_chance 5 = .ok (.aload_n 0, 1) := by decide +kernel
theorem d_O_chance_6 : decode cc_O_chance 6 = .ok (.invokevirtual 137, 3) := by decide +kernel
theorem d_O_chance_9 : decode cc_O_chance 9 = .ok (.aload_n 0, 1) := by decide +kernel
theorem d_O_chance_10 : decode cc_O_chance 10 = .ok (.getfield 28, 3) := by decide +kernel
theorem d_O_chance_13 : decode cc_O_chance 13 = .ok (.aload_n 0, 1) := by decide +kernel
theorem d_O_chance_14 : decode cc_O_chance 14 = .ok (.getfield 12, 3) := by decide +kernel
theorem d_O_chance_17 : decode cc_O_chance 17 = .ok (.iload_n 1, 1) := by decide +kernel
theorem d_O_chance_18 : decode cc_O_chance 18 = .ok (.invokevirtual 159, 3) := by decide +kernel
theorem d_O_chance_21 : decode cc_O_chance 21 = .ok (.invokevirtual 162, 3) := by decide +kernel
theorem d_O_chance_24 : decode cc_O_chance 24 = .ok (.lreturn, 1) := by decide +kernel
def P_O_chance (a1 : Int32) (z0 : St) (Q : Int64 → St → Prop) (X : Nat → St → Prop) : Prop := P_O_requirePerson a1 z0 (fun (z1 : St) => P_O_requireCountable z1 (fun (z2 : St) => P_P_kindOf a1 z2 (fun (x4 : Int32) (z3 : St) => P_T_panelsWithOneOf x4 z3 (fun (x6 : Int64) (z5 : St) => Q x6 z5))) X) X
set_option maxHeartbeats 4000000 in
set_option maxRecDepth 100000 in
theorem c_O_chance {l : Launch} {G : GG} (a1 : Int32) (z0 : St) (Q : Int64 → St → Prop) (X : Nat → St → Prop) (hP : P_O_chance a1 z0 Q X) : CtlX l y_O_chance cc_O_chance 2 (some .long) rm_O_chance G [.ref (ha G 0), .int a1] z0 Q X := by
  refine CtlX.op (own := R_O) (by decide) rfl (Nat.le_of_ble_eq_true rfl) (fun p e s m args below meth c ls E hl hW => ?_)
  obtain ⟨hx, hb, hml, hown, hr, hlk, hex, hE⟩ := id E
  have hl : lv_has ls 2 [(0, .ref (ha G 0)), (1, .int a1)] := hl
  refine lv_aload_n hx hb d_O_chance_0 rfl (lv_at hl 0 rfl) ?_
  refine lv_iload_n hx hb d_O_chance_1 rfl (lv_at hl 1 rfl) ?_
  refine yx_v (yVX (As := [.int a1]) (rest := []) E (c_O_requirePerson _ _ _ _ hP) (cw_O_155 hE) (yrv_0 hE hW) (by decide) hW hl.1 rfl rfl rfl d_O_chance_2) hW (fun z1 H locs hP hW => ?_) hlk hex (fun _ _ h1 h2 => Or.inr ⟨h1, h2⟩)
  refine lv_aload_n hx hb d_O_chance_5 rfl (lv_at hl 0 rfl) ?_
  refine yx_v (yVX (As := []) (rest := []) E (c_O_requireCountable _ _ _ hP) (cw_O_137 hE) (yrv_0 hE hW) (by decide) hW hl.1 rfl rfl rfl d_O_chance_6) hW (fun z2 H locs hP hW => ?_) hlk hex (fun _ _ h1 h2 => Or.inr ⟨h1, h2⟩)
  refine lv_aload_n hx hb d_O_chance_9 rfl (lv_at hl 0 rfl) ?_
  refine ygf_0_2 hx hb hown hE hW (lk_O_28 hE) d_O_chance_10 ?_
  refine lv_aload_n hx hb d_O_chance_13 rfl (lv_at hl 0 rfl) ?_
  refine ygf_0_0 hx hb hown hE hW (lk_O_12 hE) d_O_chance_14 ?_
  refine lv_iload_n hx hb d_O_chance_17 rfl (lv_at hl 1 rfl) ?_
  refine yc_i (yV (As := [.int a1]) (rest := [.ref (ha G 9)]) E (c_P_kindOf _ _ _ hP) (cw_O_159 hE) (yrv_1 hE hW) (by decide) hW hl.1 rfl rfl rfl d_O_chance_18) hW (fun x4 z3 H locs hP hW => ?_)
  refine yc_l (yV (As := [.int x4]) (rest := []) E (c_T_panelsWithOneOf _ _ _ hP) (cw_O_162 hE) (yrv_9 hE hW) (by decide) hW hl.1 rfl rfl rfl d_O_chance_21) hW (fun x6 z5 H locs hP hW => ?_)
  exact yr_lX hx hb hr hlk hW hP d_O_chance_24
theorem d_O_kind_0 : decode cc_O_kind 0 = .ok (.iload_n 1, 1) := by decide +kernel
theorem d_O_kind_1 : decode cc_O_kind 1 = .ok (.iconst (-1), 1) := by decide +kernel
theorem d_O_kind_2 : decode cc_O_kind 2 = .ok (.if_icmp .ne 11, 3) := by decide +kernel
theorem d_O_kind_5 : decode cc_O_kind 5 = .ok (.aload_n 0, 1) := by decide +kernel
theorem d_O_kind_6 : decode cc_O_kind 6 = .ok (.getfield 12, 3) := by decide +kernel
theorem d_O_kind_9 : decode cc_O_kind 9 = .ok (.getfield 166, 3) := by decide +kernel
theorem d_O_kind_12 : decode cc_O_kind 12 = .ok (.ireturn, 1) := by decide +kernel
theorem d_O_kind_13 : decode cc_O_kind 13 = .ok (.aload_n 0, 1) := by decide +kernel
theorem d_O_kind_14 : decode cc_O_kind 14 = .ok (.iload_n 1, 1) := by decide +kernel
theorem d_O_kind_15 : decode cc_O_kind 15 = .ok (.invokevirtual 155, 3) := by decide +kernel
theorem d_O_kind_18 : decode cc_O_kind 18 = .ok (.aload_n 0, 1) := by decide +kernel
theorem d_O_kind_19 : decode cc_O_kind 19 = .ok (.getfield 12, 3) := by decide +kernel
theorem d_O_kind_22 : decode cc_O_kind 22 = .ok (.iload_n 1, 1) := by decide +kernel
theorem d_O_kind_23 : decode cc_O_kind 23 = .ok (.invokevirtual 159, 3) := by decide +kernel
theorem d_O_kind_26 : decode cc_O_kind 26 = .ok (.ireturn, 1) := by decide +kernel
def P_O_kind (a1 : Int32) (z0 : St) (Q : Int32 → St → Prop) (X : Nat → St → Prop) : Prop := ((¬ a1 = (-1 : Int32)) → P_O_requirePerson a1 z0 (fun (z1 : St) => P_P_kindOf a1 z1 (fun (x3 : Int32) (z2 : St) => Q x3 z2)) X) ∧ ((a1 = (-1 : Int32)) → Q (z0.1 1 5) z0)
set_option maxHeartbeats 4000000 in
set_option maxRecDepth 100000 in
theorem c_O_kind {l : Launch} {G : GG} (a1 : Int32) (z0 : St) (Q : Int32 → St → Prop) (X : Nat → St → Prop) (hP : P_O_kind a1 z0 Q X) : CtiX l y_O_kind cc_O_kind 2 (some .int) rm_O_kind G [.ref (ha G 0), .int a1] z0 Q X := by
  refine CtiX.op (own := R_O) (by decide) rfl (Nat.le_of_ble_eq_true rfl) (fun p e s m args below meth c ls E hl hW => ?_)
  obtain ⟨hx, hb, hml, hown, hr, hlk, hex, hE⟩ := id E
  have hl : lv_has ls 2 [(0, .ref (ha G 0)), (1, .int a1)] := hl
  refine lv_iload_n hx hb d_O_kind_0 rfl (lv_at hl 1 rfl) ?_
  refine lv_iconst (v := -1) hx hb d_O_kind_1 (by decide) ?_
  refine lv_icmp_ne (tgt := 13) hx hb d_O_kind_2 rfl (fun hc => ?_) (fun hc => ?_)
  · have hP := hP.1 hc
    refine lv_aload_n hx hb d_O_kind_13 rfl (lv_at hl 0 rfl) ?_
    refine lv_iload_n hx hb d_O_kind_14 rfl (lv_at hl 1 rfl) ?_
    refine yx_v (yVX (As := [.int a1]) (rest := []) E (c_O_requirePerson _ _ _ _ hP) (cw_O_155 hE) (yrv_0 hE hW) (by decide) hW hl.1 rfl rfl rfl d_O_kind_15) hW (fun z1 H locs hP hW => ?_) hlk hex (fun _ _ h1 h2 => Or.inr ⟨h1, h2⟩)
    refine lv_aload_n hx hb d_O_kind_18 rfl (lv_at hl 0 rfl) ?_
    refine ygf_0_0 hx hb hown hE hW (lk_O_12 hE) d_O_kind_19 ?_
    refine lv_iload_n hx hb d_O_kind_22 rfl (lv_at hl 1 rfl) ?_
    refine yc_i (yV (As := [.int a1]) (rest := []) E (c_P_kindOf _ _ _ hP) (cw_O_159 hE) (yrv_1 hE hW) (by decide) hW hl.1 rfl rfl rfl d_O_kind_23) hW (fun x3 z2 H locs hP hW => ?_)
    exact yr_iX hx hb hr hlk hW hP d_O_kind_26
  · have hP := hP.2 hc
    refine lv_aload_n hx hb d_O_kind_5 rfl (lv_at hl 0 rfl) ?_
    refine ygf_0_0 hx hb hown hE hW (lk_O_12 hE) d_O_kind_6 ?_
    refine ygn_1_5 hx hb hown hE hW (lk_O_166 hE) d_O_kind_9 ?_
    exact yr_iX hx hb hr hlk hW hP d_O_kind_12
theorem d_O_requireIndex_0 : decode cc_O_requireIndex 0 = .ok (.iload_n 0, 1) := by decide +kernel
theorem d_O_requireIndex_1 : decode cc_O_requireIndex 1 = .ok (.ifCond .ge 14, 3) := by decide +kernel
theorem d_O_requireIndex_4 : decode cc_O_requireIndex 4 = .ok (.new 87, 3) := by decide +kernel
theorem d_O_requireIndex_7 : decode cc_O_requireIndex 7 = .ok (.dup, 1) := by decide +kernel
theorem d_O_requireIndex_8 : decode cc_O_requireIndex 8 = .ok (.ldc_w 307, 3) := by decide +kernel
theorem d_O_requireIndex_11 : decode cc_O_requireIndex 11 = .ok (.invokespecial 91, 3) := by decide +kernel
theorem d_O_requireIndex_14 : decode cc_O_requireIndex 14 = .ok (.athrow, 1) := by decide +kernel
theorem d_O_requireIndex_15 : decode cc_O_requireIndex 15 = .ok (.return_, 1) := by decide +kernel
def P_O_requireIndex (a0 : Int32) (z0 : St) (Q : St → Prop) (X : Nat → St → Prop) : Prop := ((0 ≤ a0) → Q z0) ∧ ((¬ 0 ≤ a0) → X 0 z0)
set_option maxHeartbeats 4000000 in
set_option maxRecDepth 100000 in
theorem c_O_requireIndex {l : Launch} {G : GG} (a0 : Int32) (z0 : St) (Q : St → Prop) (X : Nat → St → Prop) (hP : P_O_requireIndex a0 z0 Q X) : CtvX l y_O_requireIndex cc_O_requireIndex 1 none rm_O_requireIndex G [.int a0] z0 Q X := by
  refine CtvX.op (own := R_O) (by decide) rfl (Nat.le_of_ble_eq_true rfl) (fun p e s m args below meth c ls E hl hW => ?_)
  obtain ⟨hx, hb, hml, hown, hr, hlk, hex, hE⟩ := id E
  have hl : lv_has ls 1 [(0, .int a0)] := hl
  refine lv_iload_n hx hb d_O_requireIndex_0 rfl (lv_at hl 0 rfl) ?_
  refine lv_if_ge (tgt := 15) hx hb d_O_requireIndex_1 rfl (fun hc => ?_) (fun hc => ?_)
  · have hP := hP.1 hc
    exact yr_vX hx hb hr hlk hW hP d_O_requireIndex_15
  · have hP := hP.2 hc
    exact yt (k := 0) hx hb hown hlk hex hE hW hl.1 hml (by decide) (by decide) (fun _ h => lt_O_0_307 h) d_O_requireIndex_4 d_O_requireIndex_7 (Or.inr ⟨d_O_requireIndex_8, rfl⟩) d_O_requireIndex_11 d_O_requireIndex_14 hP (fun _ _ h1 h2 => Or.inr ⟨h1, h2⟩)
theorem d_C_isRefused_0 : decode cc_C_isRefused 0 = .ok (.aload_n 0, 1) := by decide +kernel
theorem d_C_isRefused_1 : decode cc_C_isRefused 1 = .ok (.getfield 26, 3) := by decide +kernel
theorem d_C_isRefused_4 : decode cc_C_isRefused 4 = .ok (.ireturn, 1) := by decide +kernel
def P_C_isRefused (z0 : St) (Q : Int32 → St → Prop) : Prop := zb (z0.1 20 5) ∧ Q (z0.1 20 5) z0
set_option maxHeartbeats 4000000 in
set_option maxRecDepth 100000 in
theorem c_C_isRefused {l : Launch} {G : GG} (z0 : St) (Q : Int32 → St → Prop) (hP : P_C_isRefused z0 Q) : Cti l y_C_isRefused cc_C_isRefused 1 (some .boolean) rm_C_isRefused G [.ref (ha G 20)] z0 Q := by
  refine Cti.op (own := R_C) (by decide) rfl (Nat.le_of_ble_eq_true rfl) (fun p e s m args below meth c ls E hl hW => ?_)
  obtain ⟨hx, hb, hml, hown, hr, hlk, hex, hE⟩ := id E
  have hl : lv_has ls 1 [(0, .ref (ha G 20))] := hl
  refine lv_aload_n hx hb d_C_isRefused_0 rfl (lv_at hl 0 rfl) ?_
  refine ygf_20_5 hx hb hown hE hW (lk_C_26 hE) d_C_isRefused_1 ?_
  exact yr_z hx hb hr hlk hW hP.1 hP.2 d_C_isRefused_4
theorem d_C_nameOf_0 : decode cc_C_nameOf 0 = .ok (.iload_n 1, 1) := by decide +kernel
theorem d_C_nameOf_1 : decode cc_C_nameOf 1 = .ok (.ifCond .lt 20, 3) := by decide +kernel
theorem d_C_nameOf_4 : decode cc_C_nameOf 4 = .ok (.iload_n 1, 1) := by decide +kernel
theorem d_C_nameOf_5 : decode cc_C_nameOf 5 = .ok (.aload_n 0, 1) := by decide +kernel
theorem d_C_nameOf_6 : decode cc_C_nameOf 6 = .ok (.getfield 22, 3) := by decide +kernel
theorem d_C_nameOf_9 : decode cc_C_nameOf 9 = .ok (.if_icmp .ge 12, 3) := by decide +kernel
theorem d_C_nameOf_12 : decode cc_C_nameOf 12 = .ok (.aload_n 0, 1) := by decide +kernel
theorem d_C_nameOf_13 : decode cc_C_nameOf 13 = .ok (.getfield 18, 3) := by decide +kernel
theorem d_C_nameOf_16 : decode cc_C_nameOf 16 = .ok (.iload_n 1, 1) := by decide +kernel
theorem d_C_nameOf_17 : decode cc_C_nameOf 17 = .ok (.iaload, 1) := by decide +kernel
theorem d_C_nameOf_18 : decode cc_C_nameOf 18 = .ok (.goto 4, 3) := by decide +kernel
theorem d_C_nameOf_21 : decode cc_C_nameOf 21 = .ok (.iconst (-1), 1) := by decide +kernel
theorem d_C_nameOf_22 : decode cc_C_nameOf 22 = .ok (.ireturn, 1) := by decide +kernel
def P_C_nameOf (a1 : Int32) (z0 : St) (Q : Int32 → St → Prop) : Prop := ((a1 < 0) → Q (-1 : Int32) z0) ∧ ((¬ a1 < 0) → (((z0.1 20 4) ≤ a1) → Q (-1 : Int32) z0) ∧ ((¬ (z0.1 20 4) ≤ a1) → vp_in a1 12 ∧ Q (z0.1 24 a1.toNatClampNeg) z0))
set_option maxHeartbeats 4000000 in
set_option maxRecDepth 100000 in
theorem c_C_nameOf {l : Launch} {G : GG} (a1 : Int32) (z0 : St) (Q : Int32 → St → Prop) (hP : P_C_nameOf a1 z0 Q) : Cti l y_C_nameOf cc_C_nameOf 2 (some .int) rm_C_nameOf G [.ref (ha G 20), .int a1] z0 Q := by
  refine Cti.op (own := R_C) (by decide) rfl (Nat.le_of_ble_eq_true rfl) (fun p e s m args below meth c ls E hl hW => ?_)
  obtain ⟨hx, hb, hml, hown, hr, hlk, hex, hE⟩ := id E
  have hl : lv_has ls 2 [(0, .ref (ha G 20)), (1, .int a1)] := hl
  refine lv_iload_n hx hb d_C_nameOf_0 rfl (lv_at hl 1 rfl) ?_
  refine lv_if_lt (tgt := 21) hx hb d_C_nameOf_1 rfl (fun hc => ?_) (fun hc => ?_)
  · have hP := hP.1 hc
    refine lv_iconst (v := -1) hx hb d_C_nameOf_21 (by decide) ?_
    exact yr_i hx hb hr hlk hW hP d_C_nameOf_22
  · have hP := hP.2 hc
    refine lv_iload_n hx hb d_C_nameOf_4 rfl (lv_at hl 1 rfl) ?_
    refine lv_aload_n hx hb d_C_nameOf_5 rfl (lv_at hl 0 rfl) ?_
    refine ygf_20_4 hx hb hown hE hW (lk_C_22 hE) d_C_nameOf_6 ?_
    refine lv_icmp_ge (tgt := 21) hx hb d_C_nameOf_9 rfl (fun hc => ?_) (fun hc => ?_)
    · have hP := hP.1 hc
      refine lv_iconst (v := -1) hx hb d_C_nameOf_21 (by decide) ?_
      exact yr_i hx hb hr hlk hW hP d_C_nameOf_22
    · have hP := hP.2 hc
      refine lv_aload_n hx hb d_C_nameOf_12 rfl (lv_at hl 0 rfl) ?_
      refine ygf_20_3 hx hb hown hE hW (lk_C_18 hE) d_C_nameOf_13 ?_
      refine lv_iload_n hx hb d_C_nameOf_16 rfl (lv_at hl 1 rfl) ?_
      refine ya_24 hx hb hE hW hP.1 d_C_nameOf_17 ?_
      have hP := hP.2
      refine lv_goto (tgt := 22) hx hb d_C_nameOf_18 rfl ?_
      exact yr_i hx hb hr hlk hW hP d_C_nameOf_22
def P_Q_set2 (a1 : Int32) (a2 : Int32) (a3 : Int32) (z0 : St) (Q : St → Prop) : Prop := vp_in a1 12 ∧ ∀ z1 : St, z1 = wI z0 22 a1.toNatClampNeg a2 → vp_in a1 12 ∧ ∀ z2 : St, z2 = wI z1 23 a1.toNatClampNeg a3 → Q z2
set_option maxHeartbeats 4000000 in
set_option maxRecDepth 100000 in
theorem c_Q_set2 {l : Launch} {G : GG} (a1 : Int32) (a2 : Int32) (a3 : Int32) (z0 : St) (Q : St → Prop) (hP : P_Q_set2 a1 a2 a3 z0 Q) : Ctv l y_Q_set cc_Q_set 4 none rm_Q_set2 G [.ref (ha G 21), .int a1, .int a2, .int a3] z0 Q := by
  refine Ctv.op (own := R_Q) (by decide) rfl (Nat.le_of_ble_eq_true rfl) (fun p e s m args below meth c ls E hl hW => ?_)
  obtain ⟨hx, hb, hml, hown, hr, hlk, hex, hE⟩ := id E
  have hl : lv_has ls 4 [(0, .ref (ha G 21)), (1, .int a1), (2, .int a2), (3, .int a3)] := hl
  refine lv_aload_n hx hb d_Q_set_0 rfl (lv_at hl 0 rfl) ?_
  refine ygf_21_0 hx hb hown hE hW (lk_Q_9 hE) d_Q_set_1 ?_
  refine lv_iload_n hx hb d_Q_set_4 rfl (lv_at hl 1 rfl) ?_
  refine lv_iload_n hx hb d_Q_set_5 rfl (lv_at hl 2 rfl) ?_
  refine ys_22 hx hb hE hW hP.1 d_Q_set_6 (fun z1 H locs e_z1 hW => ?_)
  have hP := hP.2
  have hP := hP z1 e_z1
  refine lv_aload_n hx hb d_Q_set_7 rfl (lv_at hl 0 rfl) ?_
  refine ygf_21_1 hx hb hown hE hW (lk_Q_15 hE) d_Q_set_8 ?_
  refine lv_iload_n hx hb d_Q_set_11 rfl (lv_at hl 1 rfl) ?_
  refine lv_iload_n hx hb d_Q_set_12 rfl (lv_at hl 3 rfl) ?_
  refine ys_23 hx hb hE hW hP.1 d_Q_set_13 (fun z2 H locs e_z2 hW => ?_)
  have hP := hP.2
  have hP := hP z2 e_z2
  exact yr_v hx hb hr hlk hW hP d_Q_set_14
theorem d_Q_copyOneFrom_0 : decode cc_Q_copyOneFrom 0 = .ok (.aload_n 0, 1) := by decide +kernel
theorem d_Q_copyOneFrom_1 : decode cc_Q_copyOneFrom 1 = .ok (.iload_n 2, 1) := by decide +kernel
theorem d_Q_copyOneFrom_2 : decode cc_Q_copyOneFrom 2 = .ok (.aload_n 1, 1) := by decide +kernel
theorem d_Q_copyOneFrom_3 : decode cc_Q_copyOneFrom 3 = .ok (.getfield 9, 3) := by decide +kernel
theorem d_Q_copyOneFrom_6 : decode cc_Q_copyOneFrom 6 = .ok (.iload_n 2, 1) := by decide +kernel
theorem d_Q_copyOneFrom_7 : decode cc_Q_copyOneFrom 7 = .ok (.iaload, 1) := by decide +kernel
theorem d_Q_copyOneFrom_8 : decode cc_Q_copyOneFrom 8 = .ok (.aload_n 1, 1) := by decide +kernel
theorem d_Q_copyOneFrom_9 : decode cc_Q_copyOneFrom 9 = .ok (.getfield 15, 3) := by decide +kernel
theorem d_Q_copyOneFrom_12 : decode cc_Q_copyOneFrom 12 = .ok (.iload_n 2, 1) := by decide +kernel
theorem d_Q_copyOneFrom_13 : decode cc_Q_copyOneFrom 13 = .ok (.iaload, 1) := by decide +kernel
theorem d_Q_copyOneFrom_14 : decode cc_Q_copyOneFrom 14 = .ok (.invokevirtual 24, 3) := by decide +kernel
theorem d_Q_copyOneFrom_17 : decode cc_Q_copyOneFrom 17 = .ok (.return_, 1) := by decide +kernel
def P_Q_copyOneFrom (a2 : Int32) (z0 : St) (Q : St → Prop) : Prop := vp_in a2 12 ∧ vp_in a2 12 ∧ P_Q_set2 a2 (z0.1 7 a2.toNatClampNeg) (z0.1 8 a2.toNatClampNeg) z0 (fun (z1 : St) => Q z1)
set_option maxHeartbeats 4000000 in
set_option maxRecDepth 100000 in
theorem c_Q_copyOneFrom {l : Launch} {G : GG} (a2 : Int32) (z0 : St) (Q : St → Prop) (hP : P_Q_copyOneFrom a2 z0 Q) : Ctv l y_Q_copyOneFrom cc_Q_copyOneFrom 3 none rm_Q_copyOneFrom G [.ref (ha G 21), .ref (ha G 6), .int a2] z0 Q := by
  refine Ctv.op (own := R_Q) (by decide) rfl (Nat.le_of_ble_eq_true rfl) (fun p e s m args below meth c ls E hl hW => ?_)
  obtain ⟨hx, hb, hml, hown, hr, hlk, hex, hE⟩ := id E
  have hl : lv_has ls 3 [(0, .ref (ha G 21)), (1, .ref (ha G 6)), (2, .int a2)] := hl
  refine lv_aload_n hx hb d_Q_copyOneFrom_0 rfl (lv_at hl 0 rfl) ?_
  refine lv_iload_n hx hb d_Q_copyOneFrom_1 rfl (lv_at hl 2 rfl) ?_
  refine lv_aload_n hx hb d_Q_copyOneFrom_2 rfl (lv_at hl 1 rfl) ?_
  refine ygf_6_0 hx hb hown hE hW (lk_Q_9 hE) d_Q_copyOneFrom_3 ?_
  refine lv_iload_n hx hb d_Q_copyOneFrom_6 rfl (lv_at hl 2 rfl) ?_
  refine ya_7 hx hb hE hW hP.1 d_Q_copyOneFrom_7 ?_
  have hP := hP.2
  refine lv_aload_n hx hb d_Q_copyOneFrom_8 rfl (lv_at hl 1 rfl) ?_
  refine ygf_6_1 hx hb hown hE hW (lk_Q_15 hE) d_Q_copyOneFrom_9 ?_
  refine lv_iload_n hx hb d_Q_copyOneFrom_12 rfl (lv_at hl 2 rfl) ?_
  refine ya_8 hx hb hE hW hP.1 d_Q_copyOneFrom_13 ?_
  have hP := hP.2
  refine yc_v (yV (As := [.int a2, .int (z0.1 7 a2.toNatClampNeg), .int (z0.1 8 a2.toNatClampNeg)]) (rest := []) E (c_Q_set2 _ _ _ _ _ hP) (cw_Q_24 hE) (yrv_21 hE hW) (by decide) hW hl.1 rfl rfl rfl d_Q_copyOneFrom_14) hW (fun z1 H locs hP hW => ?_)
  exact yr_v hx hb hr hlk hW hP d_Q_copyOneFrom_17
theorem d_Q_isLeftOut_0 : decode cc_Q_isLeftOut 0 = .ok (.aload_n 0, 1) := by decide +kernel
theorem d_Q_isLeftOut_1 : decode cc_Q_isLeftOut 1 = .ok (.getfield 9, 3) := by decide +kernel
theorem d_Q_isLeftOut_4 : decode cc_Q_isLeftOut 4 = .ok (.iload_n 1, 1) := by decide +kernel
theorem d_Q_isLeftOut_5 : decode cc_Q_isLeftOut 5 = .ok (.iaload, 1) := by decide +kernel
theorem d_Q_isLeftOut_6 : decode cc_Q_isLeftOut 6 = .ok (.ifCond .ne 18, 3) := by decide +kernel
theorem d_Q_isLeftOut_9 : decode cc_Q_isLeftOut 9 = .ok (.aload_n 0, 1) := by decide +kernel
theorem d_Q_isLeftOut_10 : decode cc_Q_isLeftOut 10 = .ok (.getfield 15, 3) := by decide +kernel
theorem d_Q_isLeftOut_13 : decode cc_Q_isLeftOut 13 = .ok (.iload_n 1, 1) := by decide +kernel
theorem d_Q_isLeftOut_14 : decode cc_Q_isLeftOut 14 = .ok (.iaload, 1) := by decide +kernel
theorem d_Q_isLeftOut_15 : decode cc_Q_isLeftOut 15 = .ok (.bipush 8, 2) := by decide +kernel
theorem d_Q_isLeftOut_17 : decode cc_Q_isLeftOut 17 = .ok (.if_icmp .ne 7, 3) := by decide +kernel
theorem d_Q_isLeftOut_20 : decode cc_Q_isLeftOut 20 = .ok (.iconst 1, 1) := by decide +kernel
theorem d_Q_isLeftOut_21 : decode cc_Q_isLeftOut 21 = .ok (.goto 4, 3) := by decide +kernel
theorem d_Q_isLeftOut_24 : decode cc_Q_isLeftOut 24 = .ok (.iconst 0, 1) := by decide +kernel
theorem d_Q_isLeftOut_25 : decode cc_Q_isLeftOut 25 = .ok (.ireturn, 1) := by decide +kernel
def P_Q_isLeftOut (a1 : Int32) (z0 : St) (Q : Int32 → St → Prop) : Prop := vp_in a1 12 ∧ ((¬ (z0.1 7 a1.toNatClampNeg) = 0) → Q (0 : Int32) z0) ∧ (((z0.1 7 a1.toNatClampNeg) = 0) → vp_in a1 12 ∧ ((¬ (z0.1 8 a1.toNatClampNeg) = (8 : Int32)) → Q (0 : Int32) z0) ∧ (((z0.1 8 a1.toNatClampNeg) = (8 : Int32)) → Q (1 : Int32) z0))
set_option maxHeartbeats 4000000 in
set_option maxRecDepth 100000 in
theorem c_Q_isLeftOut {l : Launch} {G : GG} (a1 : Int32) (z0 : St) (Q : Int32 → St → Prop) (hP : P_Q_isLeftOut a1 z0 Q) : Cti l y_Q_isLeftOut cc_Q_isLeftOut 2 (some .boolean) rm_Q_isLeftOut G [.ref (ha G 6), .int a1] z0 Q := by
  refine Cti.op (own := R_Q) (by decide) rfl (Nat.le_of_ble_eq_true rfl) (fun p e s m args below meth c ls E hl hW => ?_)
  obtain ⟨hx, hb, hml, hown, hr, hlk, hex, hE⟩ := id E
  have hl : lv_has ls 2 [(0, .ref (ha G 6)), (1, .int a1)] := hl
  refine lv_aload_n hx hb d_Q_isLeftOut_0 rfl (lv_at hl 0 rfl) ?_
  refine ygf_6_0 hx hb hown hE hW (lk_Q_9 hE) d_Q_isLeftOut_1 ?_
  refine lv_iload_n hx hb d_Q_isLeftOut_4 rfl (lv_at hl 1 rfl) ?_
  refine ya_7 hx hb hE hW hP.1 d_Q_isLeftOut_5 ?_
  have hP := hP.2
  refine lv_if_ne (tgt := 24) hx hb d_Q_isLeftOut_6 rfl (fun hc => ?_) (fun hc => ?_)
  · have hP := hP.1 hc
    refine lv_iconst (v := 0) hx hb d_Q_isLeftOut_24 (by decide) ?_
    exact yr_z hx hb hr hlk hW zb_0 hP d_Q_isLeftOut_25
  · have hP := hP.2 hc
    refine lv_aload_n hx hb d_Q_isLeftOut_9 rfl (lv_at hl 0 rfl) ?_
    refine ygf_6_1 hx hb hown hE hW (lk_Q_15 hE) d_Q_isLeftOut_10 ?_
    refine lv_iload_n hx hb d_Q_isLeftOut_13 rfl (lv_at hl 1 rfl) ?_
    refine ya_8 hx hb hE hW hP.1 d_Q_isLeftOut_14 ?_
    have hP := hP.2
    refine lv_bipush (v := 8) hx hb d_Q_isLeftOut_15 (by decide) ?_
    refine lv_icmp_ne (tgt := 24) hx hb d_Q_isLeftOut_17 rfl (fun hc => ?_) (fun hc => ?_)
    · have hP := hP.1 hc
      refine lv_iconst (v := 0) hx hb d_Q_isLeftOut_24 (by decide) ?_
      exact yr_z hx hb hr hlk hW zb_0 hP d_Q_isLeftOut_25
    · have hP := hP.2 hc
      refine lv_iconst (v := 1) hx hb d_Q_isLeftOut_20 (by decide) ?_
      refine lv_goto (tgt := 25) hx hb d_Q_isLeftOut_21 rfl ?_
      exact yr_z hx hb hr hlk hW zb_1 hP d_Q_isLeftOut_25
theorem d_Q_leaveOut_0 : decode cc_Q_leaveOut 0 = .ok (.aload_n 0, 1) := by decide +kernel
theorem d_Q_leaveOut_1 : decode cc_Q_leaveOut 1 = .ok (.iload_n 1, 1) := by decide +kernel
theorem d_Q_leaveOut_2 : decode cc_Q_leaveOut 2 = .ok (.iconst 0, 1) := by decide +kernel
theorem d_Q_leaveOut_3 : decode cc_Q_leaveOut 3 = .ok (.bipush 8, 2) := by decide +kernel
theorem d_Q_leaveOut_5 : decode cc_Q_leaveOut 5 = .ok (.invokevirtual 24, 3) := by decide +kernel
theorem d_Q_leaveOut_8 : decode cc_Q_leaveOut 8 = .ok (.return_, 1) := by decide +kernel
def P_Q_leaveOut (a1 : Int32) (z0 : St) (Q : St → Prop) : Prop := P_Q_set2 a1 (0 : Int32) (8 : Int32) z0 (fun (z1 : St) => Q z1)
set_option maxHeartbeats 4000000 in
set_option maxRecDepth 100000 in
theorem c_Q_leaveOut {l : Launch} {G : GG} (a1 : Int32) (z0 : St) (Q : St → Prop) (hP : P_Q_leaveOut a1 z0 Q) : Ctv l y_Q_leaveOut cc_Q_leaveOut 2 none rm_Q_leaveOut G [.ref (ha G 21), .int a1] z0 Q := by
  refine Ctv.op (own := R_Q) (by decide) rfl (Nat.le_of_ble_eq_true rfl) (fun p e s m args below meth c ls E hl hW => ?_)
  obtain ⟨hx, hb, hml, hown, hr, hlk, hex, hE⟩ := id E
  have hl : lv_has ls 2 [(0, .ref (ha G 21)), (1, .int a1)] := hl
  refine lv_aload_n hx hb d_Q_leaveOut_0 rfl (lv_at hl 0 rfl) ?_
  refine lv_iload_n hx hb d_Q_leaveOut_1 rfl (lv_at hl 1 rfl) ?_
  refine lv_iconst (v := 0) hx hb d_Q_leaveOut_2 (by decide) ?_
  refine lv_bipush (v := 8) hx hb d_Q_leaveOut_3 (by decide) ?_
  refine yc_v (yV (As := [.int a1, .int (0 : Int32), .int (8 : Int32)]) (rest := []) E (c_Q_set2 _ _ _ _ _ hP) (cw_Q_24 hE) (yrv_21 hE hW) (by decide) hW hl.1 rfl rfl rfl d_Q_leaveOut_5) hW (fun z1 H locs hP hW => ?_)
  exact yr_v hx hb hr hlk hW hP d_Q_leaveOut_8
def L_T_takesFrom2_26 (Q : Int32 → St → Prop) : Nat → Int64 → Int32 → Int32 → Int32 → St → Prop
  | 0, _, _, _, _, _ => False
  | n + 1, v1, v3, v6, v7, z0 => (((3 : Int32) ≤ v7) → Q v6 z0) ∧ ((¬ (3 : Int32) ≤ v7) → vp_in v3 16 ∧ P_P_valueIn (z0.1 4 v3.toNatClampNeg) v7 z0 (fun (x5 : Int32) (z4 : St) => P_O_quotaOf v7 x5 z4 (fun (x7 : Int32) (z6 : St) => vp_in x7 12 ∧ P_T_field v1 x7 z6 (fun (x9 : Int32) (z8 : St) => ∀ x10 : Int32, x10 = (mminI v6 ((z6.1 23 x7.toNatClampNeg) - x9)) → ∀ x11 : Int32, x11 = v7 + 1 → L_T_takesFrom2_26 Q n v1 v3 x10 x11 z8))))
def P_T_takesFrom2 (a1 : Int64) (a3 : Int32) (a5 : Int32) (z0 : St) (Q : Int32 → St → Prop) : Prop := vp_in a3 16 ∧ P_T_field a1 (12 : Int32) z0 (fun (x2 : Int32) (z1 : St) => ∀ x3 : Int32, x3 = (mminI (z0.1 5 a3.toNatClampNeg) (a5 - x2)) → ∃ k26 : Nat, L_T_takesFrom2_26 Q k26 a1 a3 x3 (0 : Int32) z1)
set_option maxHeartbeats 4000000 in
set_option maxRecDepth 100000 in
theorem wL_T_takesFrom2_26 {Q : Int32 → St → Prop} (E : En p l s m meth c args cc_T_takesFrom 9 R_T (some .int) G) :
    ∀ (n : Nat) (v1 : Int64) (v3 : Int32) (v6 : Int32) (v7 : Int32) (z0 : St) (ls : Array Slot) (H : Heap) (locs : List Loc), L_T_takesFrom2_26 Q n v1 v3 v6 v7 z0 → lv_has ls 9 [(0, .ref (ha G 9)), (1, .long v1), (3, .int v3), (4, .ref (ha G 21)), (6, .int v6), (7, .int v7)] → Wd G z0 s.heap H locs → W p l e rm_T_takesFrom2 s m args below meth c H locs 0 0 (MQ below (QiR Q G) args s 0 0 (fr G)) (F0 m 26 ls []) := by
  obtain ⟨hx, hb, hml, hown, hr, hlk, hex, hE⟩ := id E
  intro n
  induction n with
  | zero => exact fun _ _ _ _ _ _ _ _ hP _ _ => hP.elim
  | succ n ih =>
    intro v1 v3 v6 v7 z0 ls H locs hP hl hW
    refine lv_iload hx hb d_T_takesFrom_26 (lv_at hl 5 rfl) ?_
    refine lv_iconst (v := 3) hx hb d_T_takesFrom_28 (by decide) ?_
    refine lv_icmp_ge (tgt := 81) hx hb d_T_takesFrom_29 rfl (fun hc => ?_) (fun hc => ?_)
    · have hP := hP.1 hc
      refine lv_iload hx hb d_T_takesFrom_81 (lv_at hl 4 rfl) ?_
      exact yr_i hx hb hr hlk hW hP d_T_takesFrom_83
    · have hP := hP.2 hc
      refine lv_iload hx hb d_T_takesFrom_32 (lv_at hl 5 rfl) ?_
      refine lv_aload_n hx hb d_T_takesFrom_34 rfl (lv_at hl 0 rfl) ?_
      refine ygf_9_0 hx hb hown hE hW (lk_T_51 hE) d_T_takesFrom_35 ?_
      refine ygn_1_2 hx hb hown hE hW (lk_T_94 hE) d_T_takesFrom_38 ?_
      refine lv_iload_n hx hb d_T_takesFrom_41 rfl (lv_at hl 2 rfl) ?_
      refine ya_4 hx hb hE hW hP.1 d_T_takesFrom_42 ?_
      have hP := hP.2
      refine lv_iload hx hb d_T_takesFrom_43 (lv_at hl 5 rfl) ?_
      refine yc_i (yS (As := [.int (z0.1 4 v3.toNatClampNeg), .int v7]) (rest := [.int v7]) E (c_P_valueIn _ _ _ _ hP) (cw_T_111 hE) (by decide) hW hl.1 rfl rfl rfl d_T_takesFrom_45) hW (fun x5 z4 H locs hP hW => ?_)
      refine yc_i (ySN (As := [.int v7, .int x5]) (rest := []) E (c_O_quotaOf _ _ _ _ hP) (cw_T_114 hE) (by decide) hW hl.1 rfl rfl rfl d_T_takesFrom_48) hW (fun x7 z6 H locs hP hW => ?_)
      refine lv_istore (lv' := [(8, .int x7), (0, .ref (ha G 9)), (1, .long v1), (3, .int v3), (4, .ref (ha G 21)), (6, .int v6), (7, .int v7)]) hx hb d_T_takesFrom_51 hl (by decide) rfl (fun ls hl => ?_)
      refine lv_iload hx hb d_T_takesFrom_53 (lv_at hl 5 rfl) ?_
      refine lv_aload hx hb d_T_takesFrom_55 (lv_at hl 4 rfl) ?_
      refine ygn_21_1 hx hb hown hE hW (lk_T_117 hE) d_T_takesFrom_57 ?_
      refine lv_iload hx hb d_T_takesFrom_60 (lv_at hl 0 rfl) ?_
      refine ya_23 hx hb hE hW hP.1 d_T_takesFrom_62 ?_
      have hP := hP.2
      refine lv_lload_n hx hb d_T_takesFrom_63 rfl (lv_at hl 2 rfl) ?_
      refine lv_iload hx hb d_T_takesFrom_64 (lv_at hl 0 rfl) ?_
      refine yc_i (yS (As := [.long v1, .int x7]) (rest := [.int (z6.1 23 x7.toNatClampNeg), .int v6]) E (c_T_field _ _ _ _ hP) (cw_T_107 hE) (by decide) hW hl.1 rfl rfl rfl d_T_takesFrom_66) hW (fun x9 z8 H locs hP hW => ?_)
      refine lv_isub hx hb d_T_takesFrom_69 ?_
      refine ym_minI (rest := []) hx hb (hml.trans hl.1.symm) hown hE (lk_T_55 hE) (by decide) rfl d_T_takesFrom_70 ?_
      refine lv_topi (fun x10 e_x10 => ?_)
      have hP := hP x10 e_x10
      refine lv_istore (lv' := [(6, .int x10), (8, .int x7), (0, .ref (ha G 9)), (1, .long v1), (3, .int v3), (4, .ref (ha G 21)), (7, .int v7)]) hx hb d_T_takesFrom_73 hl (by decide) rfl (fun ls hl => ?_)
      obtain ⟨x11, e_x11⟩ : ∃ z : Int32, z = v7 + 1 := ⟨_, rfl⟩
      have hP := hP x11 e_x11
      refine lv_iinc (k := 6) (lv' := [(7, .int x11), (6, .int x10), (8, .int x7), (0, .ref (ha G 9)), (1, .long v1), (3, .int v3), (4, .ref (ha G 21))]) hx hb d_T_takesFrom_75 hl rfl (ii_p1 e_x11) (by decide) rfl (fun ls hl => ?_)
      refine lv_goto (tgt := 26) hx hb d_T_takesFrom_78 rfl ?_
      exact ih _ _ _ _ _ _ _ _ hP (lv_sub hl [3, 4, 5, 6, 1, 0] rfl) hW
set_option maxHeartbeats 4000000 in
set_option maxRecDepth 100000 in
theorem c_T_takesFrom2 {l : Launch} {G : GG} (a1 : Int64) (a3 : Int32) (a5 : Int32) (z0 : St) (Q : Int32 → St → Prop) (hP : P_T_takesFrom2 a1 a3 a5 z0 Q) : Cti l y_T_takesFrom cc_T_takesFrom 9 (some .int) rm_T_takesFrom2 G [.ref (ha G 9), .long a1, .int a3, .ref (ha G 21), .int a5] z0 Q := by
  refine Cti.op (own := R_T) (by decide) rfl (Nat.le_of_ble_eq_true rfl) (fun p e s m args below meth c ls E hl hW => ?_)
  obtain ⟨hx, hb, hml, hown, hr, hlk, hex, hE⟩ := id E
  have hl : lv_has ls 9 [(0, .ref (ha G 9)), (1, .long a1), (3, .int a3), (4, .ref (ha G 21)), (5, .int a5)] := hl
  refine lv_aload_n hx hb d_T_takesFrom_0 rfl (lv_at hl 0 rfl) ?_
  refine ygf_9_0 hx hb hown hE hW (lk_T_51 hE) d_T_takesFrom_1 ?_
  refine ygn_1_3 hx hb hown hE hW (lk_T_87 hE) d_T_takesFrom_4 ?_
  refine lv_iload_n hx hb d_T_takesFrom_7 rfl (lv_at hl 2 rfl) ?_
  refine ya_5 hx hb hE hW hP.1 d_T_takesFrom_8 ?_
  have hP := hP.2
  refine lv_iload hx hb d_T_takesFrom_9 (lv_at hl 4 rfl) ?_
  refine lv_lload_n hx hb d_T_takesFrom_11 rfl (lv_at hl 1 rfl) ?_
  refine lv_bipush (v := 12) hx hb d_T_takesFrom_12 (by decide) ?_
  refine yc_i (yS (As := [.long a1, .int (12 : Int32)]) (rest := [.int a5, .int (z0.1 5 a3.toNatClampNeg)]) E (c_T_field _ _ _ _ hP) (cw_T_107 hE) (by decide) hW hl.1 rfl rfl rfl d_T_takesFrom_14) hW (fun x2 z1 H locs hP hW => ?_)
  refine lv_isub hx hb d_T_takesFrom_17 ?_
  refine ym_minI (rest := []) hx hb (hml.trans hl.1.symm) hown hE (lk_T_55 hE) (by decide) rfl d_T_takesFrom_18 ?_
  refine lv_topi (fun x3 e_x3 => ?_)
  have hP := hP x3 e_x3
  refine lv_istore (lv' := [(6, .int x3), (0, .ref (ha G 9)), (1, .long a1), (3, .int a3), (4, .ref (ha G 21)), (5, .int a5)]) hx hb d_T_takesFrom_21 hl (by decide) rfl (fun ls hl => ?_)
  refine lv_iconst (v := 0) hx hb d_T_takesFrom_23 (by decide) ?_
  refine lv_istore (lv' := [(7, .int (0 : Int32)), (6, .int x3), (0, .ref (ha G 9)), (1, .long a1), (3, .int a3), (4, .ref (ha G 21)), (5, .int a5)]) hx hb d_T_takesFrom_24 hl (by decide) rfl (fun ls hl => ?_)
  obtain ⟨n2, hP⟩ := hP
  refine wL_T_takesFrom2_26 E n2 _ _ _ _ _ _ _ _ hP (lv_sub hl [2, 3, 4, 5, 1, 0] rfl) hW
def L_T_addLayer2_92 (K157 : Int32 → Int32 → Int64 → Int32 → Int32 → St → Prop) (Q : St → Prop) : Nat → Int32 → Int32 → Int64 → Int32 → Int32 → Int32 → Int32 → St → Prop
  | 0, _, _, _, _, _, _, _, _ => False
  | n + 1, v1, v3, v4, v6, v7, v8, v9, z0 => vp_in v7 1001 ∧ (((z0.1 11 v7.toNatClampNeg) < v9) → K157 v1 v3 v4 v6 v7 z0) ∧ ((¬ (z0.1 11 v7.toNatClampNeg) < v9) → ((¬ (z0.1 9 11) = 0) → K157 v1 v3 v4 v6 v7 z0) ∧ (((z0.1 9 11) = 0) → vp_in v8 1001 ∧ ((0 ≤ (z0.1 13 v8.toNatClampNeg)) → vp_in v8 1001 ∧ ∀ x11 : Int32, x11 = (z0.1 13 v8.toNatClampNeg) → ∀ x12 : Int32, x12 = v9 + 1 → L_T_addLayer2_92 K157 Q n v1 v3 v4 v6 v7 x11 x12 z0) ∧ ((¬ 0 ≤ (z0.1 13 v8.toNatClampNeg)) → vp_in v8 1001 ∧ P_T_stateOf ((z0.2 10 v8.toNatClampNeg) + v4) z0 (fun (x14 : Int32) (z13 : St) => vp_in v8 1001 ∧ ∀ z15 : St, z15 = wI z13 13 v8.toNatClampNeg x14 → vp_in v8 1001 ∧ ∀ x16 : Int32, x16 = (z15.1 13 v8.toNatClampNeg) → ∀ x17 : Int32, x17 = v9 + 1 → L_T_addLayer2_92 K157 Q n v1 v3 v4 v6 v7 x16 x17 z15))))
def L_T_addLayer2_28 (Q : St → Prop) : Nat → Int32 → Int32 → Int64 → Int32 → Int32 → St → Prop
  | 0, _, _, _, _, _, _ => False
  | n + 1, v1, v3, v4, v6, v7, z0 => ((v6 ≤ v7) → Q z0) ∧ ((¬ v6 ≤ v7) → ((¬ (z0.1 9 11) = 0) → Q z0) ∧ (((z0.1 9 11) = 0) → vp_in v7 1001 ∧ P_T_takesFrom2 (z0.2 10 v7.toNatClampNeg) v1 v3 z0 (fun (x6 : Int32) (z5 : St) => vp_in v7 1001 ∧ ∀ z7 : St, z7 = wI z5 11 v7.toNatClampNeg x6 → vp_in v7 1001 ∧ P_T_stateOf ((z7.2 10 v7.toNatClampNeg) + (4503599627370496 : Int64)) z7 (fun (x9 : Int32) (z8 : St) => vp_in v7 1001 ∧ ∀ z10 : St, z10 = wI z8 12 v7.toNatClampNeg x9 → ∃ k92 : Nat, L_T_addLayer2_92 (fun (x18 : Int32) (x19 : Int32) (x20 : Int64) (x21 : Int32) (x22 : Int32) (z23 : St) => ∀ x24 : Int32, x24 = x22 + 1 → L_T_addLayer2_28 Q n x18 x19 x20 x21 x24 z23) Q k92 v1 v3 v4 v6 v7 x9 (1 : Int32) z10))))
def P_T_addLayer2 (a1 : Int32) (a3 : Int32) (z0 : St) (Q : St → Prop) : Prop := vp_in a1 16 ∧ P_T_oneMoreOf (z0.1 4 a1.toNatClampNeg) z0 (fun (x2 : Int64) (z1 : St) => ∀ x3 : Int32, x3 = (z1.1 9 10) → vp_in a1 17 ∧ ∀ x4 : Int32, x4 = (z1.1 17 a1.toNatClampNeg) → ∃ k28 : Nat, L_T_addLayer2_28 Q k28 a1 a3 x2 x3 x4 z1)
set_option maxHeartbeats 4000000 in
set_option maxRecDepth 100000 in
theorem wL_T_addLayer2_92 {K157 : Int32 → Int32 → Int64 → Int32 → Int32 → St → Prop} {Q : St → Prop} (E : En p l s m meth c args cc_T_addLayer 10 R_T none G)
    (hK157 : ∀ (v1 : Int32) (v3 : Int32) (v4 : Int64) (v6 : Int32) (v7 : Int32) (z0 : St) (ls : Array Slot) (H : Heap) (locs : List Loc), K157 v1 v3 v4 v6 v7 z0 → lv_has ls 10 [(0, .ref (ha G 9)), (1, .int v1), (2, .ref (ha G 21)), (3, .int v3), (4, .long v4), (6, .int v6), (7, .int v7)] → Wd G z0 s.heap H locs → W p l e rm_T_addLayer2 s m args below meth c H locs 0 0 (MQ below (QvR Q G) args s 0 0 (fr G)) (F0 m 157 ls [])) :
    ∀ (n : Nat) (v1 : Int32) (v3 : Int32) (v4 : Int64) (v6 : Int32) (v7 : Int32) (v8 : Int32) (v9 : Int32) (z0 : St) (ls : Array Slot) (H : Heap) (locs : List Loc), L_T_addLayer2_92 K157 Q n v1 v3 v4 v6 v7 v8 v9 z0 → lv_has ls 10 [(0, .ref (ha G 9)), (1, .int v1), (2, .ref (ha G 21)), (3, .int v3), (4, .long v4), (6, .int v6), (7, .int v7), (8, .int v8), (9, .int v9)] → Wd G z0 s.heap H locs → W p l e rm_T_addLayer2 s m args below meth c H locs 0 0 (MQ below (QvR Q G) args s 0 0 (fr G)) (F0 m 92 ls []) := by
  obtain ⟨hx, hb, hml, hown, hr, hlk, hex, hE⟩ := id E
  intro n
  induction n with
  | zero => exact fun _ _ _ _ _ _ _ _ _ _ _ hP _ _ => hP.elim
  | succ n ih =>
    intro v1 v3 v4 v6 v7 v8 v9 z0 ls H locs hP hl hW
    refine lv_iload hx hb d_T_addLayer_92 (lv_at hl 8 rfl) ?_
    refine lv_aload_n hx hb d_T_addLayer_94 rfl (lv_at hl 0 rfl) ?_
    refine ygf_9_2 hx hb hown hE hW (lk_T_15 hE) d_T_addLayer_95 ?_
    refine lv_iload hx hb d_T_addLayer_98 (lv_at hl 6 rfl) ?_
    refine ya_11 hx hb hE hW hP.1 d_T_addLayer_100 ?_
    have hP := hP.2
    refine lv_icmp_gt (tgt := 157) hx hb d_T_addLayer_101 rfl (fun hc => ?_) (fun hc => ?_)
    · have hP := hP.1 hc
      exact hK157 _ _ _ _ _ _ _ _ _ hP (lv_sub hl [0, 1, 2, 3, 4, 5, 6] rfl) hW
    · have hP := hP.2 hc
      refine lv_aload_n hx hb d_T_addLayer_104 rfl (lv_at hl 0 rfl) ?_
      refine ygf_9_11 hx hb hown hE hW (lk_T_44 hE) d_T_addLayer_105 ?_
      refine lv_if_ne (tgt := 157) hx hb d_T_addLayer_108 rfl (fun hc => ?_) (fun hc => ?_)
      · have hP := hP.1 hc
        exact hK157 _ _ _ _ _ _ _ _ _ hP (lv_sub hl [0, 1, 2, 3, 4, 5, 6] rfl) hW
      · have hP := hP.2 hc
        refine lv_aload_n hx hb d_T_addLayer_111 rfl (lv_at hl 0 rfl) ?_
        refine ygf_9_4 hx hb hown hE hW (lk_T_22 hE) d_T_addLayer_112 ?_
        refine lv_iload hx hb d_T_addLayer_115 (lv_at hl 7 rfl) ?_
        refine ya_13 hx hb hE hW hP.1 d_T_addLayer_117 ?_
        have hP := hP.2
        refine lv_if_ge (tgt := 142) hx hb d_T_addLayer_118 rfl (fun hc => ?_) (fun hc => ?_)
        · have hP := hP.1 hc
          refine lv_aload_n hx hb d_T_addLayer_142 rfl (lv_at hl 0 rfl) ?_
          refine ygf_9_4 hx hb hown hE hW (lk_T_22 hE) d_T_addLayer_143 ?_
          refine lv_iload hx hb d_T_addLayer_146 (lv_at hl 7 rfl) ?_
          refine ya_13 hx hb hE hW hP.1 d_T_addLayer_148 ?_
          have hP := hP.2
          refine lv_topi (fun x11 e_x11 => ?_)
          have hP := hP x11 e_x11
          refine lv_istore (lv' := [(8, .int x11), (0, .ref (ha G 9)), (1, .int v1), (2, .ref (ha G 21)), (3, .int v3), (4, .long v4), (6, .int v6), (7, .int v7), (9, .int v9)]) hx hb d_T_addLayer_149 hl (by decide) rfl (fun ls hl => ?_)
          obtain ⟨x12, e_x12⟩ : ∃ z : Int32, z = v9 + 1 := ⟨_, rfl⟩
          have hP := hP x12 e_x12
          refine lv_iinc (k := 8) (lv' := [(9, .int x12), (8, .int x11), (0, .ref (ha G 9)), (1, .int v1), (2, .ref (ha G 21)), (3, .int v3), (4, .long v4), (6, .int v6), (7, .int v7)]) hx hb d_T_addLayer_151 hl rfl (ii_p1 e_x12) (by decide) rfl (fun ls hl => ?_)
          refine lv_goto (tgt := 92) hx hb d_T_addLayer_154 rfl ?_
          exact ih _ _ _ _ _ _ _ _ _ _ _ hP (lv_sub hl [2, 3, 4, 5, 6, 7, 8, 1, 0] rfl) hW
        · have hP := hP.2 hc
          refine lv_aload_n hx hb d_T_addLayer_121 rfl (lv_at hl 0 rfl) ?_
          refine ygf_9_4 hx hb hown hE hW (lk_T_22 hE) d_T_addLayer_122 ?_
          refine lv_iload hx hb d_T_addLayer_125 (lv_at hl 7 rfl) ?_
          refine lv_aload_n hx hb d_T_addLayer_127 rfl (lv_at hl 0 rfl) ?_
          refine lv_aload_n hx hb d_T_addLayer_128 rfl (lv_at hl 0 rfl) ?_
          refine ygf_9_1 hx hb hown hE hW (lk_T_11 hE) d_T_addLayer_129 ?_
          refine lv_iload hx hb d_T_addLayer_132 (lv_at hl 7 rfl) ?_
          refine ya_10 hx hb hE hW hP.1 d_T_addLayer_134 ?_
          have hP := hP.2
          refine lv_lload hx hb d_T_addLayer_135 (lv_at hl 4 rfl) ?_
          refine lv_ladd hx hb d_T_addLayer_137 ?_
          refine yc_i (yV (As := [.long ((z0.2 10 v8.toNatClampNeg) + v4)]) (rest := [.int v8, .ref (ha G 13)]) E (c_T_stateOf _ _ _ hP) (cw_T_67 hE) (yrv_9 hE hW) (by decide) hW hl.1 rfl rfl rfl d_T_addLayer_138) hW (fun x14 z13 H locs hP hW => ?_)
          refine ys_13 hx hb hE hW hP.1 d_T_addLayer_141 (fun z15 H locs e_z15 hW => ?_)
          have hP := hP.2
          have hP := hP z15 e_z15
          refine lv_aload_n hx hb d_T_addLayer_142 rfl (lv_at hl 0 rfl) ?_
          refine ygf_9_4 hx hb hown hE hW (lk_T_22 hE) d_T_addLayer_143 ?_
          refine lv_iload hx hb d_T_addLayer_146 (lv_at hl 7 rfl) ?_
          refine ya_13 hx hb hE hW hP.1 d_T_addLayer_148 ?_
          have hP := hP.2
          refine lv_topi (fun x16 e_x16 => ?_)
          have hP := hP x16 e_x16
          refine lv_istore (lv' := [(8, .int x16), (0, .ref (ha G 9)), (1, .int v1), (2, .ref (ha G 21)), (3, .int v3), (4, .long v4), (6, .int v6), (7, .int v7), (9, .int v9)]) hx hb d_T_addLayer_149 hl (by decide) rfl (fun ls hl => ?_)
          obtain ⟨x17, e_x17⟩ : ∃ z : Int32, z = v9 + 1 := ⟨_, rfl⟩
          have hP := hP x17 e_x17
          refine lv_iinc (k := 8) (lv' := [(9, .int x17), (8, .int x16), (0, .ref (ha G 9)), (1, .int v1), (2, .ref (ha G 21)), (3, .int v3), (4, .long v4), (6, .int v6), (7, .int v7)]) hx hb d_T_addLayer_151 hl rfl (ii_p1 e_x17) (by decide) rfl (fun ls hl => ?_)
          refine lv_goto (tgt := 92) hx hb d_T_addLayer_154 rfl ?_
          exact ih _ _ _ _ _ _ _ _ _ _ _ hP (lv_sub hl [2, 3, 4, 5, 6, 7, 8, 1, 0] rfl) hW
set_option maxHeartbeats 4000000 in
set_option maxRecDepth 100000 in
theorem wL_T_addLayer2_28 {Q : St → Prop} (E : En p l s m meth c args cc_T_addLayer 10 R_T none G) :
    ∀ (n : Nat) (v1 : Int32) (v3 : Int32) (v4 : Int64) (v6 : Int32) (v7 : Int32) (z0 : St) (ls : Array Slot) (H : Heap) (locs : List Loc), L_T_addLayer2_28 Q n v1 v3 v4 v6 v7 z0 → lv_has ls 10 [(0, .ref (ha G 9)), (1, .int v1), (2, .ref (ha G 21)), (3, .int v3), (4, .long v4), (6, .int v6), (7, .int v7)] → Wd G z0 s.heap H locs → W p l e rm_T_addLayer2 s m args below meth c H locs 0 0 (MQ below (QvR Q G) args s 0 0 (fr G)) (F0 m 28 ls []) := by
  obtain ⟨hx, hb, hml, hown, hr, hlk, hex, hE⟩ := id E
  intro n
  induction n with
  | zero => exact fun _ _ _ _ _ _ _ _ _ hP _ _ => hP.elim
  | succ n ih =>
    intro v1 v3 v4 v6 v7 z0 ls H locs hP hl hW
    refine lv_iload hx hb d_T_addLayer_28 (lv_at hl 6 rfl) ?_
    refine lv_iload hx hb d_T_addLayer_30 (lv_at hl 5 rfl) ?_
    refine lv_icmp_ge (tgt := 163) hx hb d_T_addLayer_32 rfl (fun hc => ?_) (fun hc => ?_)
    · have hP := hP.1 hc
      exact yr_v hx hb hr hlk hW hP d_T_addLayer_163
    · have hP := hP.2 hc
      refine lv_aload_n hx hb d_T_addLayer_35 rfl (lv_at hl 0 rfl) ?_
      refine ygf_9_11 hx hb hown hE hW (lk_T_44 hE) d_T_addLayer_36 ?_
      refine lv_if_ne (tgt := 163) hx hb d_T_addLayer_39 rfl (fun hc => ?_) (fun hc => ?_)
      · have hP := hP.1 hc
        exact yr_v hx hb hr hlk hW hP d_T_addLayer_163
      · have hP := hP.2 hc
        refine lv_aload_n hx hb d_T_addLayer_42 rfl (lv_at hl 0 rfl) ?_
        refine ygf_9_2 hx hb hown hE hW (lk_T_15 hE) d_T_addLayer_43 ?_
        refine lv_iload hx hb d_T_addLayer_46 (lv_at hl 6 rfl) ?_
        refine lv_aload_n hx hb d_T_addLayer_48 rfl (lv_at hl 0 rfl) ?_
        refine lv_aload_n hx hb d_T_addLayer_49 rfl (lv_at hl 0 rfl) ?_
        refine ygf_9_1 hx hb hown hE hW (lk_T_11 hE) d_T_addLayer_50 ?_
        refine lv_iload hx hb d_T_addLayer_53 (lv_at hl 6 rfl) ?_
        refine ya_10 hx hb hE hW hP.1 d_T_addLayer_55 ?_
        have hP := hP.2
        refine lv_iload_n hx hb d_T_addLayer_56 rfl (lv_at hl 1 rfl) ?_
        refine lv_aload_n hx hb d_T_addLayer_57 rfl (lv_at hl 2 rfl) ?_
        refine lv_iload_n hx hb d_T_addLayer_58 rfl (lv_at hl 3 rfl) ?_
        refine yc_i (yV (As := [.long (z0.2 10 v7.toNatClampNeg), .int v1, .ref (ha G 21), .int v3]) (rest := [.int v7, .ref (ha G 11)]) E (c_T_takesFrom2 _ _ _ _ _ hP) (cw_T_101 hE) (yrv_9 hE hW) (by decide) hW hl.1 rfl rfl rfl d_T_addLayer_59) hW (fun x6 z5 H locs hP hW => ?_)
        refine ys_11 hx hb hE hW hP.1 d_T_addLayer_62 (fun z7 H locs e_z7 hW => ?_)
        have hP := hP.2
        have hP := hP z7 e_z7
        refine lv_aload_n hx hb d_T_addLayer_63 rfl (lv_at hl 0 rfl) ?_
        refine lv_aload_n hx hb d_T_addLayer_64 rfl (lv_at hl 0 rfl) ?_
        refine ygf_9_1 hx hb hown hE hW (lk_T_11 hE) d_T_addLayer_65 ?_
        refine lv_iload hx hb d_T_addLayer_68 (lv_at hl 6 rfl) ?_
        refine ya_10 hx hb hE hW hP.1 d_T_addLayer_70 ?_
        have hP := hP.2
        refine lv_ldc2 (v := 4503599627370496) hx hb hown (lk_T_105 hE) d_T_addLayer_71 ?_
        refine lv_ladd hx hb d_T_addLayer_74 ?_
        refine yc_i (yV (As := [.long ((z7.2 10 v7.toNatClampNeg) + (4503599627370496 : Int64))]) (rest := []) E (c_T_stateOf _ _ _ hP) (cw_T_67 hE) (yrv_9 hE hW) (by decide) hW hl.1 rfl rfl rfl d_T_addLayer_75) hW (fun x9 z8 H locs hP hW => ?_)
        refine lv_istore (lv' := [(8, .int x9), (0, .ref (ha G 9)), (1, .int v1), (2, .ref (ha G 21)), (3, .int v3), (4, .long v4), (6, .int v6), (7, .int v7)]) hx hb d_T_addLayer_78 hl (by decide) rfl (fun ls hl => ?_)
        refine lv_aload_n hx hb d_T_addLayer_80 rfl (lv_at hl 1 rfl) ?_
        refine ygf_9_3 hx hb hown hE hW (lk_T_19 hE) d_T_addLayer_81 ?_
        refine lv_iload hx hb d_T_addLayer_84 (lv_at hl 7 rfl) ?_
        refine lv_iload hx hb d_T_addLayer_86 (lv_at hl 0 rfl) ?_
        refine ys_12 hx hb hE hW hP.1 d_T_addLayer_88 (fun z10 H locs e_z10 hW => ?_)
        have hP := hP.2
        have hP := hP z10 e_z10
        refine lv_iconst (v := 1) hx hb d_T_addLayer_89 (by decide) ?_
        refine lv_istore (lv' := [(9, .int (1 : Int32)), (8, .int x9), (0, .ref (ha G 9)), (1, .int v1), (2, .ref (ha G 21)), (3, .int v3), (4, .long v4), (6, .int v6), (7, .int v7)]) hx hb d_T_addLayer_90 hl (by decide) rfl (fun ls hl => ?_)
        obtain ⟨n2, hP⟩ := hP
        refine wL_T_addLayer2_92 E ?_ n2 _ _ _ _ _ _ _ _ _ _ _ hP (lv_sub hl [2, 3, 4, 5, 6, 7, 8, 1, 0] rfl) hW
        · intro x18 x19 x20 x21 x22 z23 ls H locs hP hl hW
          obtain ⟨x24, e_x24⟩ : ∃ z : Int32, z = x22 + 1 := ⟨_, rfl⟩
          have hP := hP x24 e_x24
          refine lv_iinc (k := 6) (lv' := [(7, .int x24), (0, .ref (ha G 9)), (1, .int x18), (2, .ref (ha G 21)), (3, .int x19), (4, .long x20), (6, .int x21)]) hx hb d_T_addLayer_157 hl rfl (ii_p1 e_x24) (by decide) rfl (fun ls hl => ?_)
          refine lv_goto (tgt := 28) hx hb d_T_addLayer_160 rfl ?_
          exact ih _ _ _ _ _ _ _ _ _ hP (lv_sub hl [1, 2, 3, 4, 5, 6, 0] rfl) hW
set_option maxHeartbeats 4000000 in
set_option maxRecDepth 100000 in
theorem c_T_addLayer2 {l : Launch} {G : GG} (a1 : Int32) (a3 : Int32) (z0 : St) (Q : St → Prop) (hP : P_T_addLayer2 a1 a3 z0 Q) : Ctv l y_T_addLayer cc_T_addLayer 10 none rm_T_addLayer2 G [.ref (ha G 9), .int a1, .ref (ha G 21), .int a3] z0 Q := by
  refine Ctv.op (own := R_T) (by decide) rfl (Nat.le_of_ble_eq_true rfl) (fun p e s m args below meth c ls E hl hW => ?_)
  obtain ⟨hx, hb, hml, hown, hr, hlk, hex, hE⟩ := id E
  have hl : lv_has ls 10 [(0, .ref (ha G 9)), (1, .int a1), (2, .ref (ha G 21)), (3, .int a3)] := hl
  refine lv_aload_n hx hb d_T_addLayer_0 rfl (lv_at hl 0 rfl) ?_
  refine ygf_9_0 hx hb hown hE hW (lk_T_51 hE) d_T_addLayer_1 ?_
  refine ygn_1_2 hx hb hown hE hW (lk_T_94 hE) d_T_addLayer_4 ?_
  refine lv_iload_n hx hb d_T_addLayer_7 rfl (lv_at hl 1 rfl) ?_
  refine ya_4 hx hb hE hW hP.1 d_T_addLayer_8 ?_
  have hP := hP.2
  refine yc_l (yS (As := [.int (z0.1 4 a1.toNatClampNeg)]) (rest := []) E (c_T_oneMoreOf _ _ _ hP) (cw_T_97 hE) (by decide) hW hl.1 rfl rfl rfl d_T_addLayer_9) hW (fun x2 z1 H locs hP hW => ?_)
  refine lv_lstore (lv' := [(4, .long x2), (0, .ref (ha G 9)), (1, .int a1), (2, .ref (ha G 21)), (3, .int a3)]) hx hb d_T_addLayer_12 hl (by decide) rfl (fun ls hl => ?_)
  refine lv_aload_n hx hb d_T_addLayer_14 rfl (lv_at hl 1 rfl) ?_
  refine ygf_9_10 hx hb hown hE hW (lk_T_40 hE) d_T_addLayer_15 ?_
  refine lv_topi (fun x3 e_x3 => ?_)
  have hP := hP x3 e_x3
  refine lv_istore (lv' := [(6, .int x3), (4, .long x2), (0, .ref (ha G 9)), (1, .int a1), (2, .ref (ha G 21)), (3, .int a3)]) hx hb d_T_addLayer_18 hl (by decide) rfl (fun ls hl => ?_)
  refine lv_aload_n hx hb d_T_addLayer_20 rfl (lv_at hl 2 rfl) ?_
  refine ygf_9_8 hx hb hown hE hW (lk_T_34 hE) d_T_addLayer_21 ?_
  refine lv_iload_n hx hb d_T_addLayer_24 rfl (lv_at hl 3 rfl) ?_
  refine ya_17 hx hb hE hW hP.1 d_T_addLayer_25 ?_
  have hP := hP.2
  refine lv_topi (fun x4 e_x4 => ?_)
  have hP := hP x4 e_x4
  refine lv_istore (lv' := [(7, .int x4), (6, .int x3), (4, .long x2), (0, .ref (ha G 9)), (1, .int a1), (2, .ref (ha G 21)), (3, .int a3)]) hx hb d_T_addLayer_26 hl (by decide) rfl (fun ls hl => ?_)
  obtain ⟨n2, hP⟩ := hP
  refine wL_T_addLayer2_28 E n2 _ _ _ _ _ _ _ _ _ hP (lv_sub hl [3, 4, 5, 6, 2, 1, 0] rfl) hW
def J_T_isPanel2_79 (K30 : Int64 → Int32 → Int32 → Int32 → St → Prop) (K88 : Int64 → Int32 → Int32 → St → Prop) (Q : Int32 → St → Prop) (v1 : Int64) (v6 : Int32) (v7 : Int32) (z0 : St) : Prop := ∀ x5 : Int32, x5 = v7 + 1 → K30 v1 (0 : Int32) v6 x5 z0
def L_T_isPanel2_30 (K88 : Int64 → Int32 → Int32 → St → Prop) (Q : Int32 → St → Prop) : Nat → Int64 → Int32 → Int32 → Int32 → St → Prop
  | 0, _, _, _, _, _ => False
  | n + 1, v1, v5, v6, v7, z0 => vp_in v6 3 ∧ (((z0.1 2 v6.toNatClampNeg) ≤ v7) → K88 v1 v5 v6 z0) ∧ ((¬ (z0.1 2 v6.toNatClampNeg) ≤ v7) → P_O_quotaOf v6 v7 z0 (fun (x4 : Int32) (z3 : St) => ((v5 = 0) → J_T_isPanel2_79 (L_T_isPanel2_30 K88 Q n) K88 Q v1 v6 v7 z3) ∧ ((¬ v5 = 0) → P_T_field v1 x4 z3 (fun (x7 : Int32) (z6 : St) => vp_in x4 12 ∧ ((x7 < (z6.1 22 x4.toNatClampNeg)) → J_T_isPanel2_79 (L_T_isPanel2_30 K88 Q n) K88 Q v1 v6 v7 z6) ∧ ((¬ x7 < (z6.1 22 x4.toNatClampNeg)) → ∀ x8 : Int32, x8 = v7 + 1 → L_T_isPanel2_30 K88 Q n v1 (1 : Int32) v6 x8 z6)))))
def L_T_isPanel2_21 (Q : Int32 → St → Prop) : Nat → Int64 → Int32 → Int32 → St → Prop
  | 0, _, _, _, _ => False
  | n + 1, v1, v5, v6, z0 => (((3 : Int32) ≤ v6) → zb v5 ∧ Q v5 z0) ∧ ((¬ (3 : Int32) ≤ v6) → ∃ k30 : Nat, L_T_isPanel2_30 (fun (x9 : Int64) (x10 : Int32) (x11 : Int32) (z12 : St) => ∀ x13 : Int32, x13 = x11 + 1 → L_T_isPanel2_21 Q n x9 x10 x13 z12) Q k30 v1 v5 v6 (0 : Int32) z0)
def P_T_isPanel2 (a1 : Int64) (a4 : Int32) (z0 : St) (Q : Int32 → St → Prop) : Prop := P_T_field a1 (12 : Int32) z0 (fun (x2 : Int32) (z1 : St) => ((¬ x2 = a4) → ∃ k21 : Nat, L_T_isPanel2_21 Q k21 a1 (0 : Int32) (0 : Int32) z1) ∧ ((x2 = a4) → ∃ k21 : Nat, L_T_isPanel2_21 Q k21 a1 (1 : Int32) (0 : Int32) z1))
set_option maxHeartbeats 4000000 in
set_option maxRecDepth 100000 in
theorem wJ_T_isPanel2_79 {K30 : Int64 → Int32 → Int32 → Int32 → St → Prop} {K88 : Int64 → Int32 → Int32 → St → Prop} {Q : Int32 → St → Prop} (E : En p l s m meth c args cc_T_isPanel 9 R_T (some .boolean) G)
    (hK30 : ∀ (v1 : Int64) (v5 : Int32) (v6 : Int32) (v7 : Int32) (z0 : St) (ls : Array Slot) (H : Heap) (locs : List Loc), K30 v1 v5 v6 v7 z0 → lv_has ls 9 [(0, .ref (ha G 9)), (1, .long v1), (3, .ref (ha G 21)), (5, .int v5), (6, .int v6), (7, .int v7)] → Wd G z0 s.heap H locs → W p l e rm_T_isPanel2 s m args below meth c H locs 0 0 (MQ below (QiR Q G) args s 0 0 (fr G)) (F0 m 30 ls []))
    (hK88 : ∀ (v1 : Int64) (v5 : Int32) (v6 : Int32) (z0 : St) (ls : Array Slot) (H : Heap) (locs : List Loc), K88 v1 v5 v6 z0 → lv_has ls 9 [(0, .ref (ha G 9)), (1, .long v1), (3, .ref (ha G 21)), (5, .int v5), (6, .int v6)] → Wd G z0 s.heap H locs → W p l e rm_T_isPanel2 s m args below meth c H locs 0 0 (MQ below (QiR Q G) args s 0 0 (fr G)) (F0 m 88 ls []))
    (v1 : Int64) (v6 : Int32) (v7 : Int32) (z0 : St) (ls : Array Slot) (H : Heap) (locs : List Loc) (hP : J_T_isPanel2_79 K30 K88 Q v1 v6 v7 z0) (hl : lv_has ls 9 [(0, .ref (ha G 9)), (1, .long v1), (3, .ref (ha G 21)), (6, .int v6), (7, .int v7)]) (hW : Wd G z0 s.heap H locs) : W p l e rm_T_isPanel2 s m args below meth c H locs 0 0 (MQ below (QiR Q G) args s 0 0 (fr G)) (F0 m 79 ls []) := by
  obtain ⟨hx, hb, hml, hown, hr, hlk, hex, hE⟩ := id E
  refine lv_iconst (v := 0) hx hb d_T_isPanel_79 (by decide) ?_
  refine lv_istore (lv' := [(5, .int (0 : Int32)), (0, .ref (ha G 9)), (1, .long v1), (3, .ref (ha G 21)), (6, .int v6), (7, .int v7)]) hx hb d_T_isPanel_80 hl (by decide) rfl (fun ls hl => ?_)
  obtain ⟨x5, e_x5⟩ : ∃ z : Int32, z = v7 + 1 := ⟨_, rfl⟩
  have hP := hP x5 e_x5
  refine lv_iinc (k := 5) (lv' := [(7, .int x5), (5, .int (0 : Int32)), (0, .ref (ha G 9)), (1, .long v1), (3, .ref (ha G 21)), (6, .int v6)]) hx hb d_T_isPanel_82 hl rfl (ii_p1 e_x5) (by decide) rfl (fun ls hl => ?_)
  refine lv_goto (tgt := 30) hx hb d_T_isPanel_85 rfl ?_
  exact hK30 _ _ _ _ _ _ _ _ hP (lv_sub hl [2, 3, 4, 1, 5, 0] rfl) hW
set_option maxHeartbeats 4000000 in
set_option maxRecDepth 100000 in
theorem wL_T_isPanel2_30 {K88 : Int64 → Int32 → Int32 → St → Prop} {Q : Int32 → St → Prop} (E : En p l s m meth c args cc_T_isPanel 9 R_T (some .boolean) G)
    (hK88 : ∀ (v1 : Int64) (v5 : Int32) (v6 : Int32) (z0 : St) (ls : Array Slot) (H : Heap) (locs : List Loc), K88 v1 v5 v6 z0 → lv_has ls 9 [(0, .ref (ha G 9)), (1, .long v1), (3, .ref (ha G 21)), (5, .int v5), (6, .int v6)] → Wd G z0 s.heap H locs → W p l e rm_T_isPanel2 s m args below meth c H locs 0 0 (MQ below (QiR Q G) args s 0 0 (fr G)) (F0 m 88 ls [])) :
    ∀ (n : Nat) (v1 : Int64) (v5 : Int32) (v6 : Int32) (v7 : Int32) (z0 : St) (ls : Array Slot) (H : Heap) (locs : List Loc), L_T_isPanel2_30 K88 Q n v1 v5 v6 v7 z0 → lv_has ls 9 [(0, .ref (ha G 9)), (1, .long v1), (3, .ref (ha G 21)), (5, .int v5), (6, .int v6), (7, .int v7)] → Wd G z0 s.heap H locs → W p l e rm_T_isPanel2 s m args below meth c H locs 0 0 (MQ below (QiR Q G) args s 0 0 (fr G)) (F0 m 30 ls []) := by
  obtain ⟨hx, hb, hml, hown, hr, hlk, hex, hE⟩ := id E
  intro n
  induction n with
  | zero => exact fun _ _ _ _ _ _ _ _ hP _ _ => hP.elim
  | succ n ih =>
    intro v1 v5 v6 v7 z0 ls H locs hP hl hW
    refine lv_iload hx hb d_T_isPanel_30 (lv_at hl 5 rfl) ?_
    refine lv_aload_n hx hb d_T_isPanel_32 rfl (lv_at hl 0 rfl) ?_
    refine ygf_9_0 hx hb hown hE hW (lk_T_51 hE) d_T_isPanel_33 ?_
    refine ygn_1_0 hx hb hown hE hW (lk_T_136 hE) d_T_isPanel_36 ?_
    refine lv_iload hx hb d_T_isPanel_39 (lv_at hl 4 rfl) ?_
    refine ya_2 hx hb hE hW hP.1 d_T_isPanel_41 ?_
    have hP := hP.2
    refine lv_icmp_ge (tgt := 88) hx hb d_T_isPanel_42 rfl (fun hc => ?_) (fun hc => ?_)
    · have hP := hP.1 hc
      exact hK88 _ _ _ _ _ _ _ hP (lv_sub hl [0, 1, 2, 3, 4] rfl) hW
    · have hP := hP.2 hc
      refine lv_iload hx hb d_T_isPanel_45 (lv_at hl 4 rfl) ?_
      refine lv_iload hx hb d_T_isPanel_47 (lv_at hl 5 rfl) ?_
      refine yc_i (ySN (As := [.int v6, .int v7]) (rest := []) E (c_O_quotaOf _ _ _ _ hP) (cw_T_114 hE) (by decide) hW hl.1 rfl rfl rfl d_T_isPanel_49) hW (fun x4 z3 H locs hP hW => ?_)
      refine lv_istore (lv' := [(8, .int x4), (0, .ref (ha G 9)), (1, .long v1), (3, .ref (ha G 21)), (5, .int v5), (6, .int v6), (7, .int v7)]) hx hb d_T_isPanel_52 hl (by decide) rfl (fun ls hl => ?_)
      refine lv_iload hx hb d_T_isPanel_54 (lv_at hl 4 rfl) ?_
      refine lv_if_eq (tgt := 79) hx hb d_T_isPanel_56 rfl (fun hc => ?_) (fun hc => ?_)
      · have hP := hP.1 hc
        exact wJ_T_isPanel2_79 E ih hK88 _ _ _ _ _ _ _ hP (lv_sub hl [1, 2, 3, 5, 6] rfl) hW
      · have hP := hP.2 hc
        refine lv_lload_n hx hb d_T_isPanel_59 rfl (lv_at hl 2 rfl) ?_
        refine lv_iload hx hb d_T_isPanel_60 (lv_at hl 0 rfl) ?_
        refine yc_i (yS (As := [.long v1, .int x4]) (rest := []) E (c_T_field _ _ _ _ hP) (cw_T_107 hE) (by decide) hW hl.1 rfl rfl rfl d_T_isPanel_62) hW (fun x7 z6 H locs hP hW => ?_)
        refine lv_aload_n hx hb d_T_isPanel_65 rfl (lv_at hl 3 rfl) ?_
        refine ygn_21_0 hx hb hown hE hW (lk_T_139 hE) d_T_isPanel_66 ?_
        refine lv_iload hx hb d_T_isPanel_69 (lv_at hl 0 rfl) ?_
        refine ya_22 hx hb hE hW hP.1 d_T_isPanel_71 ?_
        have hP := hP.2
        refine lv_icmp_lt (tgt := 79) hx hb d_T_isPanel_72 rfl (fun hc => ?_) (fun hc => ?_)
        · have hP := hP.1 hc
          exact wJ_T_isPanel2_79 E ih hK88 _ _ _ _ _ _ _ hP (lv_sub hl [1, 2, 3, 5, 6] rfl) hW
        · have hP := hP.2 hc
          refine lv_iconst (v := 1) hx hb d_T_isPanel_75 (by decide) ?_
          refine lv_goto (tgt := 80) hx hb d_T_isPanel_76 rfl ?_
          refine lv_istore (lv' := [(5, .int (1 : Int32)), (8, .int x4), (0, .ref (ha G 9)), (1, .long v1), (3, .ref (ha G 21)), (6, .int v6), (7, .int v7)]) hx hb d_T_isPanel_80 hl (by decide) rfl (fun ls hl => ?_)
          obtain ⟨x8, e_x8⟩ : ∃ z : Int32, z = v7 + 1 := ⟨_, rfl⟩
          have hP := hP x8 e_x8
          refine lv_iinc (k := 6) (lv' := [(7, .int x8), (5, .int (1 : Int32)), (8, .int x4), (0, .ref (ha G 9)), (1, .long v1), (3, .ref (ha G 21)), (6, .int v6)]) hx hb d_T_isPanel_82 hl rfl (ii_p1 e_x8) (by decide) rfl (fun ls hl => ?_)
          refine lv_goto (tgt := 30) hx hb d_T_isPanel_85 rfl ?_
          exact ih _ _ _ _ _ _ _ _ hP (lv_sub hl [3, 4, 5, 1, 6, 0] rfl) hW
set_option maxHeartbeats 4000000 in
set_option maxRecDepth 100000 in
theorem wL_T_isPanel2_21 {Q : Int32 → St → Prop} (E : En p l s m meth c args cc_T_isPanel 9 R_T (some .boolean) G) :
    ∀ (n : Nat) (v1 : Int64) (v5 : Int32) (v6 : Int32) (z0 : St) (ls : Array Slot) (H : Heap) (locs : List Loc), L_T_isPanel2_21 Q n v1 v5 v6 z0 → lv_has ls 9 [(0, .ref (ha G 9)), (1, .long v1), (3, .ref (ha G 21)), (5, .int v5), (6, .int v6)] → Wd G z0 s.heap H locs → W p l e rm_T_isPanel2 s m args below meth c H locs 0 0 (MQ below (QiR Q G) args s 0 0 (fr G)) (F0 m 21 ls []) := by
  obtain ⟨hx, hb, hml, hown, hr, hlk, hex, hE⟩ := id E
  intro n
  induction n with
  | zero => exact fun _ _ _ _ _ _ _ hP _ _ => hP.elim
  | succ n ih =>
    intro v1 v5 v6 z0 ls H locs hP hl hW
    refine lv_iload hx hb d_T_isPanel_21 (lv_at hl 4 rfl) ?_
    refine lv_iconst (v := 3) hx hb d_T_isPanel_23 (by decide) ?_
    refine lv_icmp_ge (tgt := 94) hx hb d_T_isPanel_24 rfl (fun hc => ?_) (fun hc => ?_)
    · have hP := hP.1 hc
      refine lv_iload hx hb d_T_isPanel_94 (lv_at hl 3 rfl) ?_
      exact yr_z hx hb hr hlk hW hP.1 hP.2 d_T_isPanel_96
    · have hP := hP.2 hc
      refine lv_iconst (v := 0) hx hb d_T_isPanel_27 (by decide) ?_
      refine lv_istore (lv' := [(7, .int (0 : Int32)), (0, .ref (ha G 9)), (1, .long v1), (3, .ref (ha G 21)), (5, .int v5), (6, .int v6)]) hx hb d_T_isPanel_28 hl (by decide) rfl (fun ls hl => ?_)
      obtain ⟨n2, hP⟩ := hP
      refine wL_T_isPanel2_30 E ?_ n2 _ _ _ _ _ _ _ _ hP (lv_sub hl [1, 2, 3, 4, 5, 0] rfl) hW
      · intro x9 x10 x11 z12 ls H locs hP hl hW
        obtain ⟨x13, e_x13⟩ : ∃ z : Int32, z = x11 + 1 := ⟨_, rfl⟩
        have hP := hP x13 e_x13
        refine lv_iinc (k := 4) (lv' := [(6, .int x13), (0, .ref (ha G 9)), (1, .long x9), (3, .ref (ha G 21)), (5, .int x10)]) hx hb d_T_isPanel_88 hl rfl (ii_p1 e_x13) (by decide) rfl (fun ls hl => ?_)
        refine lv_goto (tgt := 21) hx hb d_T_isPanel_91 rfl ?_
        exact ih _ _ _ _ _ _ _ hP (lv_sub hl [1, 2, 3, 4, 0] rfl) hW
set_option maxHeartbeats 4000000 in
set_option maxRecDepth 100000 in
theorem c_T_isPanel2 {l : Launch} {G : GG} (a1 : Int64) (a4 : Int32) (z0 : St) (Q : Int32 → St → Prop) (hP : P_T_isPanel2 a1 a4 z0 Q) : Cti l y_T_isPanel cc_T_isPanel 9 (some .boolean) rm_T_isPanel2 G [.ref (ha G 9), .long a1, .ref (ha G 21), .int a4] z0 Q := by
  refine Cti.op (own := R_T) (by decide) rfl (Nat.le_of_ble_eq_true rfl) (fun p e s m args below meth c ls E hl hW => ?_)
  obtain ⟨hx, hb, hml, hown, hr, hlk, hex, hE⟩ := id E
  have hl : lv_has ls 9 [(0, .ref (ha G 9)), (1, .long a1), (3, .ref (ha G 21)), (4, .int a4)] := hl
  refine lv_lload_n hx hb d_T_isPanel_0 rfl (lv_at hl 1 rfl) ?_
  refine lv_bipush (v := 12) hx hb d_T_isPanel_1 (by decide) ?_
  refine yc_i (yS (As := [.long a1, .int (12 : Int32)]) (rest := []) E (c_T_field _ _ _ _ hP) (cw_T_107 hE) (by decide) hW hl.1 rfl rfl rfl d_T_isPanel_3) hW (fun x2 z1 H locs hP hW => ?_)
  refine lv_iload hx hb d_T_isPanel_6 (lv_at hl 3 rfl) ?_
  refine lv_icmp_ne (tgt := 15) hx hb d_T_isPanel_8 rfl (fun hc => ?_) (fun hc => ?_)
  · have hP := hP.1 hc
    refine lv_iconst (v := 0) hx hb d_T_isPanel_15 (by decide) ?_
    refine lv_istore (lv' := [(5, .int (0 : Int32)), (0, .ref (ha G 9)), (1, .long a1), (3, .ref (ha G 21)), (4, .int a4)]) hx hb d_T_isPanel_16 hl (by decide) rfl (fun ls hl => ?_)
    refine lv_iconst (v := 0) hx hb d_T_isPanel_18 (by decide) ?_
    refine lv_istore (lv' := [(6, .int (0 : Int32)), (5, .int (0 : Int32)), (0, .ref (ha G 9)), (1, .long a1), (3, .ref (ha G 21)), (4, .int a4)]) hx hb d_T_isPanel_19 hl (by decide) rfl (fun ls hl => ?_)
    obtain ⟨n2, hP⟩ := hP
    refine wL_T_isPanel2_21 E n2 _ _ _ _ _ _ _ hP (lv_sub hl [2, 3, 4, 1, 0] rfl) hW
  · have hP := hP.2 hc
    refine lv_iconst (v := 1) hx hb d_T_isPanel_11 (by decide) ?_
    refine lv_goto (tgt := 16) hx hb d_T_isPanel_12 rfl ?_
    refine lv_istore (lv' := [(5, .int (1 : Int32)), (0, .ref (ha G 9)), (1, .long a1), (3, .ref (ha G 21)), (4, .int a4)]) hx hb d_T_isPanel_16 hl (by decide) rfl (fun ls hl => ?_)
    refine lv_iconst (v := 0) hx hb d_T_isPanel_18 (by decide) ?_
    refine lv_istore (lv' := [(6, .int (0 : Int32)), (5, .int (1 : Int32)), (0, .ref (ha G 9)), (1, .long a1), (3, .ref (ha G 21)), (4, .int a4)]) hx hb d_T_isPanel_19 hl (by decide) rfl (fun ls hl => ?_)
    obtain ⟨n2, hP⟩ := hP
    refine wL_T_isPanel2_21 E n2 _ _ _ _ _ _ _ hP (lv_sub hl [2, 3, 4, 1, 0] rfl) hW
end Code
