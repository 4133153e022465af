/-! T_countAhead2, T_build2, C_tryWithout, C_find, O_blocked, O_requirePlace, R_tellKind, R_tell, O_panel, O_isIn -/
section Code
variable {p : Program} {l : Launch} {e : Env} {s : State} {m : MethodId} {args : Array Value} {below : List Frame} {meth : Method} {c : Code} {G : GG}
def L_T_countAhead2_13 (K53 : St → Prop) (Q : St → Prop) : Nat → Int32 → Int32 → St → Prop
  | 0, _, _, _ => False
  | n + 1, v2, v3, z0 => (((z0.1 9 10) ≤ v3) → K53 z0) ∧ ((¬ (z0.1 9 10) ≤ v3) → vp_in v3 1001 ∧ P_T_isPanel2 (z0.2 10 v3.toNatClampNeg) v2 z0 (fun (x3 : Int32) (z2 : St) => ((x3 = 0) → vp_in v3 1001 ∧ ∀ z4 : St, z4 = wL z2 14 v3.toNatClampNeg (0 : Int64) → ∀ x5 : Int32, x5 = v3 + 1 → L_T_countAhead2_13 K53 Q n v2 x5 z4) ∧ ((¬ x3 = 0) → vp_in v3 1001 ∧ ∀ z6 : St, z6 = wL z2 14 v3.toNatClampNeg (1 : Int64) → ∀ x7 : Int32, x7 = v3 + 1 → L_T_countAhead2_13 K53 Q n v2 x7 z6)))
def L_T_countAhead2_75 (K116 : Int32 → St → Prop) (Q : St → Prop) : Nat → Int32 → Int32 → St → Prop
  | 0, _, _, _ => False
  | n + 1, v3, v4, z0 => vp_in (v3 + (1 : Int32)) 17 ∧ (((z0.1 17 (v3 + (1 : Int32)).toNatClampNeg) ≤ v4) → K116 v3 z0) ∧ ((¬ (z0.1 17 (v3 + (1 : Int32)).toNatClampNeg) ≤ v4) → vp_in v3 16 ∧ P_T_aheadWithAny v4 (z0.1 5 v3.toNatClampNeg) z0 (fun (x12 : Int64) (z11 : St) => vp_in v4 1001 ∧ ∀ z13 : St, z13 = wL z11 14 v4.toNatClampNeg x12 → ∀ x14 : Int32, x14 = v4 + 1 → L_T_countAhead2_75 K116 Q n v3 x14 z13))
def L_T_countAhead2_63 (Q : St → Prop) : Nat → Int32 → St → Prop
  | 0, _, _ => False
  | n + 1, v3, z0 => ((v3 < 0) → Q z0) ∧ ((¬ v3 < 0) → vp_in v3 17 ∧ ∀ x10 : Int32, x10 = (z0.1 17 v3.toNatClampNeg) → ∃ k75 : Nat, L_T_countAhead2_75 (fun (x15 : Int32) (z16 : St) => ∀ x17 : Int32, x17 = x15 - 1 → L_T_countAhead2_63 Q n x17 z16) Q k75 v3 x10 z0)
def P_T_countAhead2 (a2 : Int32) (z0 : St) (Q : St → Prop) : Prop := vp_in (z0.1 1 5) 17 ∧ ∀ x1 : Int32, x1 = (z0.1 17 (z0.1 1 5).toNatClampNeg) → ∃ k13 : Nat, L_T_countAhead2_13 (fun (z8 : St) => ∀ x9 : Int32, x9 = (z8.1 1 5) - (1 : Int32) → ∃ k63 : Nat, L_T_countAhead2_63 Q k63 x9 z8) Q k13 a2 x1 z0
set_option maxHeartbeats 4000000 in
set_option maxRecDepth 100000 in
theorem wL_T_countAhead2_13 {K53 : St → Prop} {Q : St → Prop} (E : En p l s m meth c args cc_T_countAhead 5 R_T none G)
    (hK53 : ∀ (z0 : St) (ls : Array Slot) (H : Heap) (locs : List Loc), K53 z0 → lv_has ls 5 [(0, .ref (ha G 9))] → Wd G z0 s.heap H locs → W p l e rm_T_countAhead2 s m args below meth c H locs 0 0 (MQ below (QvR Q G) args s 0 0 (fr G)) (F0 m 53 ls [])) :
    ∀ (n : Nat) (v2 : Int32) (v3 : Int32) (z0 : St) (ls : Array Slot) (H : Heap) (locs : List Loc), L_T_countAhead2_13 K53 Q n v2 v3 z0 → lv_has ls 5 [(0, .ref (ha G 9)), (1, .ref (ha G 21)), (2, .int v2), (3, .int v3)] → Wd G z0 s.heap H locs → W p l e rm_T_countAhead2 s m args below meth c H locs 0 0 (MQ below (QvR Q G) args s 0 0 (fr G)) (F0 m 13 ls []) := by
  obtain ⟨hx, hb, hml, hown, hr, hlk, hex, hE⟩ := id E
  intro n
  induction n with
  | zero => exact fun _ _ _ _ _ _ hP _ _ => hP.elim
  | succ n ih =>
    intro v2 v3 z0 ls H locs hP hl hW
    refine lv_iload_n hx hb d_T_countAhead_13 rfl (lv_at hl 3 rfl) ?_
    refine lv_aload_n hx hb d_T_countAhead_14 rfl (lv_at hl 0 rfl) ?_
    refine ygf_9_10 hx hb hown hE hW (lk_T_40 hE) d_T_countAhead_15 ?_
    refine lv_icmp_ge (tgt := 53) hx hb d_T_countAhead_18 rfl (fun hc => ?_) (fun hc => ?_)
    · have hP := hP.1 hc
      exact hK53 _ _ _ _ hP (lv_sub hl [0] rfl) hW
    · have hP := hP.2 hc
      refine lv_aload_n hx hb d_T_countAhead_21 rfl (lv_at hl 0 rfl) ?_
      refine ygf_9_5 hx hb hown hE hW (lk_T_25 hE) d_T_countAhead_22 ?_
      refine lv_iload_n hx hb d_T_countAhead_25 rfl (lv_at hl 3 rfl) ?_
      refine lv_aload_n hx hb d_T_countAhead_26 rfl (lv_at hl 0 rfl) ?_
      refine lv_aload_n hx hb d_T_countAhead_27 rfl (lv_at hl 0 rfl) ?_
      refine ygf_9_1 hx hb hown hE hW (lk_T_11 hE) d_T_countAhead_28 ?_
      refine lv_iload_n hx hb d_T_countAhead_31 rfl (lv_at hl 3 rfl) ?_
      refine ya_10 hx hb hE hW hP.1 d_T_countAhead_32 ?_
      have hP := hP.2
      refine lv_aload_n hx hb d_T_countAhead_33 rfl (lv_at hl 1 rfl) ?_
      refine lv_iload_n hx hb d_T_countAhead_34 rfl (lv_at hl 2 rfl) ?_
      refine yc_i (yV (As := [.long (z0.2 10 v3.toNatClampNeg), .ref (ha G 21), .int v2]) (rest := [.int v3, .ref (ha G 14)]) E (c_T_isPanel2 _ _ _ _ hP) (cw_T_129 hE) (yrv_9 hE hW) (by decide) hW hl.1 rfl rfl rfl d_T_countAhead_35) hW (fun x3 z2 H locs hP hW => ?_)
      refine lv_if_eq (tgt := 45) hx hb d_T_countAhead_38 rfl (fun hc => ?_) (fun hc => ?_)
      · have hP := hP.1 hc
        refine lv_lconst (v := 0) hx hb d_T_countAhead_45 (by decide) ?_
        refine ys_14 hx hb hE hW hP.1 d_T_countAhead_46 (fun z4 H locs e_z4 hW => ?_)
        have hP := hP.2
        have hP := hP z4 e_z4
        obtain ⟨x5, e_x5⟩ : ∃ z : Int32, z = v3 + 1 := ⟨_, rfl⟩
        have hP := hP x5 e_x5
        refine lv_iinc (k := 3) (lv' := [(3, .int x5), (0, .ref (ha G 9)), (1, .ref (ha G 21)), (2, .int v2)]) hx hb d_T_countAhead_47 hl rfl (ii_p1 e_x5) (by decide) rfl (fun ls hl => ?_)
        refine lv_goto (tgt := 13) hx hb d_T_countAhead_50 rfl ?_
        exact ih _ _ _ _ _ _ hP (lv_sub hl [1, 2, 3, 0] rfl) hW
      · have hP := hP.2 hc
        refine lv_lconst (v := 1) hx hb d_T_countAhead_41 (by decide) ?_
        refine lv_goto (tgt := 46) hx hb d_T_countAhead_42 rfl ?_
        refine ys_14 hx hb hE hW hP.1 d_T_countAhead_46 (fun z6 H locs e_z6 hW => ?_)
        have hP := hP.2
        have hP := hP z6 e_z6
        obtain ⟨x7, e_x7⟩ : ∃ z : Int32, z = v3 + 1 := ⟨_, rfl⟩
        have hP := hP x7 e_x7
        refine lv_iinc (k := 3) (lv' := [(3, .int x7), (0, .ref (ha G 9)), (1, .ref (ha G 21)), (2, .int v2)]) hx hb d_T_countAhead_47 hl rfl (ii_p1 e_x7) (by decide) rfl (fun ls hl => ?_)
        refine lv_goto (tgt := 13) hx hb d_T_countAhead_50 rfl ?_
        exact ih _ _ _ _ _ _ hP (lv_sub hl [1, 2, 3, 0] rfl) hW
set_option maxHeartbeats 4000000 in
set_option maxRecDepth 100000 in
theorem wL_T_countAhead2_75 {K116 : Int32 → St → Prop} {Q : St → Prop} (E : En p l s m meth c args cc_T_countAhead 5 R_T none G)
    (hK116 : ∀ (v3 : Int32) (z0 : St) (ls : Array Slot) (H : Heap) (locs : List Loc), K116 v3 z0 → lv_has ls 5 [(0, .ref (ha G 9)), (3, .int v3)] → Wd G z0 s.heap H locs → W p l e rm_T_countAhead2 s m args below meth c H locs 0 0 (MQ below (QvR Q G) args s 0 0 (fr G)) (F0 m 116 ls [])) :
    ∀ (n : Nat) (v3 : Int32) (v4 : Int32) (z0 : St) (ls : Array Slot) (H : Heap) (locs : List Loc), L_T_countAhead2_75 K116 Q n v3 v4 z0 → lv_has ls 5 [(0, .ref (ha G 9)), (3, .int v3), (4, .int v4)] → Wd G z0 s.heap H locs → W p l e rm_T_countAhead2 s m args below meth c H locs 0 0 (MQ below (QvR Q G) args s 0 0 (fr G)) (F0 m 75 ls []) := by
  obtain ⟨hx, hb, hml, hown, hr, hlk, hex, hE⟩ := id E
  intro n
  induction n with
  | zero => exact fun _ _ _ _ _ _ hP _ _ => hP.elim
  | succ n ih =>
    intro v3 v4 z0 ls H locs hP hl hW
    refine lv_iload hx hb d_T_countAhead_75 (lv_at hl 2 rfl) ?_
    refine lv_aload_n hx hb d_T_countAhead_77 rfl (lv_at hl 0 rfl) ?_
    refine ygf_9_8 hx hb hown hE hW (lk_T_34 hE) d_T_countAhead_78 ?_
    refine lv_iload_n hx hb d_T_countAhead_81 rfl (lv_at hl 1 rfl) ?_
    refine lv_iconst (v := 1) hx hb d_T_countAhead_82 (by decide) ?_
    refine lv_iadd hx hb d_T_countAhead_83 ?_
    refine ya_17 hx hb hE hW hP.1 d_T_countAhead_84 ?_
    have hP := hP.2
    refine lv_icmp_ge (tgt := 116) hx hb d_T_countAhead_85 rfl (fun hc => ?_) (fun hc => ?_)
    · have hP := hP.1 hc
      exact hK116 _ _ _ _ _ hP (lv_sub hl [0, 1] rfl) hW
    · have hP := hP.2 hc
      refine lv_aload_n hx hb d_T_countAhead_88 rfl (lv_at hl 0 rfl) ?_
      refine ygf_9_5 hx hb hown hE hW (lk_T_25 hE) d_T_countAhead_89 ?_
      refine lv_iload hx hb d_T_countAhead_92 (lv_at hl 2 rfl) ?_
      refine lv_aload_n hx hb d_T_countAhead_94 rfl (lv_at hl 0 rfl) ?_
      refine lv_iload hx hb d_T_countAhead_95 (lv_at hl 2 rfl) ?_
      refine lv_aload_n hx hb d_T_countAhead_97 rfl (lv_at hl 0 rfl) ?_
      refine ygf_9_0 hx hb hown hE hW (lk_T_51 hE) d_T_countAhead_98 ?_
      refine ygn_1_3 hx hb hown hE hW (lk_T_87 hE) d_T_countAhead_101 ?_
      refine lv_iload_n hx hb d_T_countAhead_104 rfl (lv_at hl 1 rfl) ?_
      refine ya_5 hx hb hE hW hP.1 d_T_countAhead_105 ?_
      have hP := hP.2
      refine yc_l (yV (As := [.int v4, .int (z0.1 5 v3.toNatClampNeg)]) (rest := [.int v4, .ref (ha G 14)]) E (c_T_aheadWithAny _ _ _ _ hP) (cw_T_133 hE) (yrv_9 hE hW) (by decide) hW hl.1 rfl rfl rfl d_T_countAhead_106) hW (fun x12 z11 H locs hP hW => ?_)
      refine ys_14 hx hb hE hW hP.1 d_T_countAhead_109 (fun z13 H locs e_z13 hW => ?_)
      have hP := hP.2
      have hP := hP z13 e_z13
      obtain ⟨x14, e_x14⟩ : ∃ z : Int32, z = v4 + 1 := ⟨_, rfl⟩
      have hP := hP x14 e_x14
      refine lv_iinc (k := 2) (lv' := [(4, .int x14), (0, .ref (ha G 9)), (3, .int v3)]) hx hb d_T_countAhead_110 hl rfl (ii_p1 e_x14) (by decide) rfl (fun ls hl => ?_)
      refine lv_goto (tgt := 75) hx hb d_T_countAhead_113 rfl ?_
      exact ih _ _ _ _ _ _ hP (lv_sub hl [1, 2, 0] rfl) hW
set_option maxHeartbeats 4000000 in
set_option maxRecDepth 100000 in
theorem wL_T_countAhead2_63 {Q : St → Prop} (E : En p l s m meth c args cc_T_countAhead 5 R_T none G) :
    ∀ (n : Nat) (v3 : Int32) (z0 : St) (ls : Array Slot) (H : Heap) (locs : List Loc), L_T_countAhead2_63 Q n v3 z0 → lv_has ls 5 [(0, .ref (ha G 9)), (3, .int v3)] → Wd G z0 s.heap H locs → W p l e rm_T_countAhead2 s m args below meth c H locs 0 0 (MQ below (QvR Q G) args s 0 0 (fr G)) (F0 m 63 ls []) := by
  obtain ⟨hx, hb, hml, hown, hr, hlk, hex, hE⟩ := id E
  intro n
  induction n with
  | zero => exact fun _ _ _ _ _ hP _ _ => hP.elim
  | succ n ih =>
    intro v3 z0 ls H locs hP hl hW
    refine lv_iload_n hx hb d_T_countAhead_63 rfl (lv_at hl 1 rfl) ?_
    refine lv_if_lt (tgt := 122) hx hb d_T_countAhead_64 rfl (fun hc => ?_) (fun hc => ?_)
    · have hP := hP.1 hc
      exact yr_v hx hb hr hlk hW hP d_T_countAhead_122
    · have hP := hP.2 hc
      refine lv_aload_n hx hb d_T_countAhead_67 rfl (lv_at hl 0 rfl) ?_
      refine ygf_9_8 hx hb hown hE hW (lk_T_34 hE) d_T_countAhead_68 ?_
      refine lv_iload_n hx hb d_T_countAhead_71 rfl (lv_at hl 1 rfl) ?_
      refine ya_17 hx hb hE hW hP.1 d_T_countAhead_72 ?_
      have hP := hP.2
      refine lv_topi (fun x10 e_x10 => ?_)
      have hP := hP x10 e_x10
      refine lv_istore (lv' := [(4, .int x10), (0, .ref (ha G 9)), (3, .int v3)]) hx hb d_T_countAhead_73 hl (by decide) rfl (fun ls hl => ?_)
      obtain ⟨n2, hP⟩ := hP
      refine wL_T_countAhead2_75 E ?_ n2 _ _ _ _ _ _ hP (lv_sub hl [1, 2, 0] rfl) hW
      · intro x15 z16 ls H locs hP hl hW
        obtain ⟨x17, e_x17⟩ : ∃ z : Int32, z = x15 - 1 := ⟨_, rfl⟩
        have hP := hP x17 e_x17
        refine lv_iinc (k := 1) (lv' := [(3, .int x17), (0, .ref (ha G 9))]) hx hb d_T_countAhead_116 hl rfl (ii_m1 e_x17) (by decide) rfl (fun ls hl => ?_)
        refine lv_goto (tgt := 63) hx hb d_T_countAhead_119 rfl ?_
        exact ih _ _ _ _ _ hP (lv_sub hl [1, 0] rfl) hW
set_option maxHeartbeats 4000000 in
set_option maxRecDepth 100000 in
theorem c_T_countAhead2 {l : Launch} {G : GG} (a2 : Int32) (z0 : St) (Q : St → Prop) (hP : P_T_countAhead2 a2 z0 Q) : Ctv l y_T_countAhead cc_T_countAhead 5 none rm_T_countAhead2 G [.ref (ha G 9), .ref (ha G 21), .int a2] z0 Q := by
  refine Ctv.op (own := R_T) (by decide) rfl (Nat.le_of_ble_eq_true rfl) (fun p e s m args below meth c ls E hl hW => ?_)
  obtain ⟨hx, hb, hml, hown, hr, hlk, hex, hE⟩ := id E
  have hl : lv_has ls 5 [(0, .ref (ha G 9)), (1, .ref (ha G 21)), (2, .int a2)] := hl
  refine lv_aload_n hx hb d_T_countAhead_0 rfl (lv_at hl 0 rfl) ?_
  refine ygf_9_8 hx hb hown hE hW (lk_T_34 hE) d_T_countAhead_1 ?_
  refine lv_aload_n hx hb d_T_countAhead_4 rfl (lv_at hl 0 rfl) ?_
  refine ygf_9_0 hx hb hown hE hW (lk_T_51 hE) d_T_countAhead_5 ?_
  refine ygn_1_5 hx hb hown hE hW (lk_T_71 hE) d_T_countAhead_8 ?_
  refine ya_17 hx hb hE hW hP.1 d_T_countAhead_11 ?_
  have hP := hP.2
  refine lv_topi (fun x1 e_x1 => ?_)
  have hP := hP x1 e_x1
  refine lv_istore_n (lv' := [(3, .int x1), (0, .ref (ha G 9)), (1, .ref (ha G 21)), (2, .int a2)]) hx hb d_T_countAhead_12 rfl hl (by decide) rfl (fun ls hl => ?_)
  obtain ⟨n2, hP⟩ := hP
  refine wL_T_countAhead2_13 E ?_ n2 _ _ _ _ _ _ hP (lv_sub hl [1, 2, 3, 0] rfl) hW
  · intro z8 ls H locs hP hl hW
    refine lv_aload_n hx hb d_T_countAhead_53 rfl (lv_at hl 0 rfl) ?_
    refine ygf_9_0 hx hb hown hE hW (lk_T_51 hE) d_T_countAhead_54 ?_
    refine ygn_1_5 hx hb hown hE hW (lk_T_71 hE) d_T_countAhead_57 ?_
    refine lv_iconst (v := 1) hx hb d_T_countAhead_60 (by decide) ?_
    refine lv_isub hx hb d_T_countAhead_61 ?_
    refine lv_topi (fun x9 e_x9 => ?_)
    have hP := hP x9 e_x9
    refine lv_istore_n (lv' := [(3, .int x9), (0, .ref (ha G 9))]) hx hb d_T_countAhead_62 rfl hl (by decide) rfl (fun ls hl => ?_)
    obtain ⟨n2, hP⟩ := hP
    refine wL_T_countAhead2_63 E n2 _ _ _ _ _ hP (lv_sub hl [1, 0] rfl) hW
def L_T_build2_31 (K74 : Int32 → St → Prop) (Q : St → Prop) : Nat → Int32 → Int32 → St → Prop
  | 0, _, _, _ => False
  | n + 1, v2, v3, z0 => (((z0.1 1 5) ≤ v3) → K74 v2 z0) ∧ ((¬ (z0.1 1 5) ≤ v3) → ((¬ (z0.1 9 11) = 0) → K74 v2 z0) ∧ (((z0.1 9 11) = 0) → vp_in (v3 + (1 : Int32)) 17 ∧ ∀ z7 : St, z7 = wI z0 17 (v3 + (1 : Int32)).toNatClampNeg (z0.1 9 10) → P_T_addLayer2 v3 v2 z7 (fun (z8 : St) => ∀ x9 : Int32, x9 = v3 + 1 → L_T_build2_31 K74 Q n v2 x9 z8)))
def J_T_build2_74 (Q : St → Prop) (v2 : Int32) (z0 : St) : Prop := ((¬ (z0.1 9 11) = 0) → Q z0) ∧ (((z0.1 9 11) = 0) → P_T_countAhead2 v2 z0 (fun (z12 : St) => Q z12))
def P_T_build2 (a2 : Int32) (z0 : St) (Q : St → Prop) : Prop := P_A_fill (-1 : Int32) z0 (fun (z1 : St) => ∀ z2 : St, z2 = wI z1 9 10 (0 : Int32) → ∀ z3 : St, z3 = wI z2 9 11 (0 : Int32) → ∀ z4 : St, z4 = wI z3 9 12 (0 : Int32) → P_T_stateOf (0 : Int64) z4 (fun (x6 : Int32) (z5 : St) => ∃ k31 : Nat, L_T_build2_31 (fun (x10 : Int32) (z11 : St) => J_T_build2_74 Q x10 z11) Q k31 a2 (0 : Int32) z5))
set_option maxHeartbeats 4000000 in
set_option maxRecDepth 100000 in
theorem wL_T_build2_31 {K74 : Int32 → St → Prop} {Q : St → Prop} (E : En p l s m meth c args cc_T_build 4 R_T none G)
    (hK74 : ∀ (v2 : Int32) (z0 : St) (ls : Array Slot) (H : Heap) (locs : List Loc), K74 v2 z0 → lv_has ls 4 [(0, .ref (ha G 9)), (1, .ref (ha G 21)), (2, .int v2)] → Wd G z0 s.heap H locs → W p l e rm_T_build2 s m args below meth c H locs 0 0 (MQ below (QvR Q G) args s 0 0 (fr G)) (F0 m 74 ls [])) :
    ∀ (n : Nat) (v2 : Int32) (v3 : Int32) (z0 : St) (ls : Array Slot) (H : Heap) (locs : List Loc), L_T_build2_31 K74 Q n v2 v3 z0 → lv_has ls 4 [(0, .ref (ha G 9)), (1, .ref (ha G 21)), (2, .int v2), (3, .int v3)] → Wd G z0 s.heap H locs → W p l e rm_T_build2 s m args below meth c H locs 0 0 (MQ below (QvR Q G) args s 0 0 (fr G)) (F0 m 31 ls []) := by
  obtain ⟨hx, hb, hml, hown, hr, hlk, hex, hE⟩ := id E
  intro n
  induction n with
  | zero => exact fun _ _ _ _ _ _ hP _ _ => hP.elim
  | succ n ih =>
    intro v2 v3 z0 ls H locs hP hl hW
    refine lv_iload_n hx hb d_T_build_31 rfl (lv_at hl 3 rfl) ?_
    refine lv_aload_n hx hb d_T_build_32 rfl (lv_at hl 0 rfl) ?_
    refine ygf_9_0 hx hb hown hE hW (lk_T_51 hE) d_T_build_33 ?_
    refine ygn_1_5 hx hb hown hE hW (lk_T_71 hE) d_T_build_36 ?_
    refine lv_icmp_ge (tgt := 74) hx hb d_T_build_39 rfl (fun hc => ?_) (fun hc => ?_)
    · have hP := hP.1 hc
      exact hK74 _ _ _ _ _ hP (lv_sub hl [0, 1, 2] rfl) hW
    · have hP := hP.2 hc
      refine lv_aload_n hx hb d_T_build_42 rfl (lv_at hl 0 rfl) ?_
      refine ygf_9_11 hx hb hown hE hW (lk_T_44 hE) d_T_build_43 ?_
      refine lv_if_ne (tgt := 74) hx hb d_T_build_46 rfl (fun hc => ?_) (fun hc => ?_)
      · have hP := hP.1 hc
        exact hK74 _ _ _ _ _ hP (lv_sub hl [0, 1, 2] rfl) hW
      · have hP := hP.2 hc
        refine lv_aload_n hx hb d_T_build_49 rfl (lv_at hl 0 rfl) ?_
        refine ygf_9_8 hx hb hown hE hW (lk_T_34 hE) d_T_build_50 ?_
        refine lv_iload_n hx hb d_T_build_53 rfl (lv_at hl 3 rfl) ?_
        refine lv_iconst (v := 1) hx hb d_T_build_54 (by decide) ?_
        refine lv_iadd hx hb d_T_build_55 ?_
        refine lv_aload_n hx hb d_T_build_56 rfl (lv_at hl 0 rfl) ?_
        refine ygf_9_10 hx hb hown hE hW (lk_T_40 hE) d_T_build_57 ?_
        refine ys_17 hx hb hE hW hP.1 d_T_build_60 (fun z7 H locs e_z7 hW => ?_)
        have hP := hP.2
        have hP := hP z7 e_z7
        refine lv_aload_n hx hb d_T_build_61 rfl (lv_at hl 0 rfl) ?_
        refine lv_iload_n hx hb d_T_build_62 rfl (lv_at hl 3 rfl) ?_
        refine lv_aload_n hx hb d_T_build_63 rfl (lv_at hl 1 rfl) ?_
        refine lv_iload_n hx hb d_T_build_64 rfl (lv_at hl 2 rfl) ?_
        refine yc_v (yV (As := [.int v3, .ref (ha G 21), .int v2]) (rest := []) E (c_T_addLayer2 _ _ _ _ hP) (cw_T_76 hE) (yrv_9 hE hW) (by decide) hW hl.1 rfl rfl rfl d_T_build_65) hW (fun z8 H locs hP hW => ?_)
        obtain ⟨x9, e_x9⟩ : ∃ z : Int32, z = v3 + 1 := ⟨_, rfl⟩
        have hP := hP x9 e_x9
        refine lv_iinc (k := 3) (lv' := [(3, .int x9), (0, .ref (ha G 9)), (1, .ref (ha G 21)), (2, .int v2)]) hx hb d_T_build_68 hl rfl (ii_p1 e_x9) (by decide) rfl (fun ls hl => ?_)
        refine lv_goto (tgt := 31) hx hb d_T_build_71 rfl ?_
        exact ih _ _ _ _ _ _ hP (lv_sub hl [1, 2, 3, 0] rfl) hW
set_option maxHeartbeats 4000000 in
set_option maxRecDepth 100000 in
theorem wJ_T_build2_74 {Q : St → Prop} (E : En p l s m meth c args cc_T_build 4 R_T none G)
    (v2 : Int32) (z0 : St) (ls : Array Slot) (H : Heap) (locs : List Loc) (hP : J_T_build2_74 Q v2 z0) (hl : lv_has ls 4 [(0, .ref (ha G 9)), (1, .ref (ha G 21)), (2, .int v2)]) (hW : Wd G z0 s.heap H locs) : W p l e rm_T_build2 s m args below meth c H locs 0 0 (MQ below (QvR Q G) args s 0 0 (fr G)) (F0 m 74 ls []) := by
  obtain ⟨hx, hb, hml, hown, hr, hlk, hex, hE⟩ := id E
  refine lv_aload_n hx hb d_T_build_74 rfl (lv_at hl 0 rfl) ?_
  refine ygf_9_11 hx hb hown hE hW (lk_T_44 hE) d_T_build_75 ?_
  refine lv_if_ne (tgt := 87) hx hb d_T_build_78 rfl (fun hc => ?_) (fun hc => ?_)
  · have hP := hP.1 hc
    exact yr_v hx hb hr hlk hW hP d_T_build_87
  · have hP := hP.2 hc
    refine lv_aload_n hx hb d_T_build_81 rfl (lv_at hl 0 rfl) ?_
    refine lv_aload_n hx hb d_T_build_82 rfl (lv_at hl 1 rfl) ?_
    refine lv_iload_n hx hb d_T_build_83 rfl (lv_at hl 2 rfl) ?_
    refine yc_v (yV (As := [.ref (ha G 21), .int v2]) (rest := []) E (c_T_countAhead2 _ _ _ hP) (cw_T_80 hE) (yrv_9 hE hW) (by decide) hW hl.1 rfl rfl rfl d_T_build_84) hW (fun z12 H locs hP hW => ?_)
    exact yr_v hx hb hr hlk hW hP d_T_build_87
set_option maxHeartbeats 4000000 in
set_option maxRecDepth 100000 in
theorem c_T_build2 {l : Launch} {G : GG} (a2 : Int32) (z0 : St) (Q : St → Prop) (hP : P_T_build2 a2 z0 Q) : Ctv l y_T_build cc_T_build 4 none rm_T_build2 G [.ref (ha G 9), .ref (ha G 21), .int a2] z0 Q := by
  refine Ctv.op (own := R_T) (by decide) rfl (Nat.le_of_ble_eq_true rfl) (fun p e s m args below meth c ls E hl hW => ?_)
  obtain ⟨hx, hb, hml, hown, hr, hlk, hex, hE⟩ := id E
  have hl : lv_has ls 4 [(0, .ref (ha G 9)), (1, .ref (ha G 21)), (2, .int a2)] := hl
  refine lv_aload_n hx hb d_T_build_0 rfl (lv_at hl 0 rfl) ?_
  refine ygf_9_7 hx hb hown hE hW (lk_T_31 hE) d_T_build_1 ?_
  refine lv_iconst (v := -1) hx hb d_T_build_4 (by decide) ?_
  refine yc_v (yS (As := [.ref (ha G 16), .int (-1 : Int32)]) (rest := []) E (c_A_fill _ _ _ hP) (cw_T_61 hE) (by decide) hW hl.1 rfl rfl rfl d_T_build_5) hW (fun z1 H locs hP hW => ?_)
  refine lv_aload_n hx hb d_T_build_8 rfl (lv_at hl 0 rfl) ?_
  refine lv_iconst (v := 0) hx hb d_T_build_9 (by decide) ?_
  refine ypf_9_10 hx hb hown hE hW (lk_T_40 hE) d_T_build_10 (fun z2 H locs e_z2 hW => ?_)
  have hP := hP z2 e_z2
  refine lv_aload_n hx hb d_T_build_13 rfl (lv_at hl 0 rfl) ?_
  refine lv_iconst (v := 0) hx hb d_T_build_14 (by decide) ?_
  refine ypf_9_11 hx hb hown hE hW zb_0 (lk_T_44 hE) d_T_build_15 (fun z3 H locs e_z3 hW => ?_)
  have hP := hP z3 e_z3
  refine lv_aload_n hx hb d_T_build_18 rfl (lv_at hl 0 rfl) ?_
  refine lv_iconst (v := 0) hx hb d_T_build_19 (by decide) ?_
  refine ypf_9_12 hx hb hown hE hW zb_0 (lk_T_48 hE) d_T_build_20 (fun z4 H locs e_z4 hW => ?_)
  have hP := hP z4 e_z4
  refine lv_aload_n hx hb d_T_build_23 rfl (lv_at hl 0 rfl) ?_
  refine lv_lconst (v := 0) hx hb d_T_build_24 (by decide) ?_
  refine yc_i (yV (As := [.long (0 : Int64)]) (rest := []) E (c_T_stateOf _ _ _ hP) (cw_T_67 hE) (yrv_9 hE hW) (by decide) hW hl.1 rfl rfl rfl d_T_build_25) hW (fun x6 z5 H locs hP hW => ?_)
  refine lv_pop hx hb d_T_build_28 rfl ?_
  refine lv_iconst (v := 0) hx hb d_T_build_29 (by decide) ?_
  refine lv_istore_n (lv' := [(3, .int (0 : Int32)), (0, .ref (ha G 9)), (1, .ref (ha G 21)), (2, .int a2)]) hx hb d_T_build_30 rfl hl (by decide) rfl (fun ls hl => ?_)
  obtain ⟨n2, hP⟩ := hP
  refine wL_T_build2_31 E ?_ n2 _ _ _ _ _ _ hP (lv_sub hl [1, 2, 3, 0] rfl) hW
  · intro x10 z11 ls H locs hP hl hW
    exact wJ_T_build2_74 E _ _ _ _ _ hP hl hW
theorem d_C_tryWithout_0 : decode cc_C_tryWithout 0 = .ok (.iload_n 1, 1) := by decide +kernel
theorem d_C_tryWithout_1 : decode cc_C_tryWithout 1 = .ok (.iload_n 2, 1) := by decide +kernel
theorem d_C_tryWithout_2 : decode cc_C_tryWithout 2 = .ok (.invokestatic 47, 3) := by decide +kernel
theorem d_C_tryWithout_5 : decode cc_C_tryWithout 5 = .ok (.istore 5, 2) := by decide +kernel
theorem d_C_tryWithout_7 : decode cc_C_tryWithout 7 = .ok (.aload_n 0, 1) := by decide +kernel
theorem d_C_tryWithout_8 : decode cc_C_tryWithout 8 = .ok (.getfield 12, 3) := by decide +kernel
theorem d_C_tryWithout_11 : decode cc_C_tryWithout 11 = .ok (.iload 5, 2) := by decide +kernel
theorem d_C_tryWithout_13 : decode cc_C_tryWithout 13 = .ok (.invokevirtual 59, 3) := by decide +kernel
theorem d_C_tryWithout_16 : decode cc_C_tryWithout 16 = .ok (.aload_n 0, 1) := by decide +kernel
theorem d_C_tryWithout_17 : decode cc_C_tryWithout 17 = .ok (.getfield 34, 3) := by decide +kernel
theorem d_C_tryWithout_20 : decode cc_C_tryWithout 20 = .ok (.aload_n 0, 1) := by decide +kernel
theorem d_C_tryWithout_21 : decode cc_C_tryWithout 21 = .ok (.getfield 12, 3) := by decide +kernel
theorem d_C_tryWithout_24 : decode cc_C_tryWithout 24 = .ok (.iload 4, 2) := by decide +kernel
theorem d_C_tryWithout_26 : decode cc_C_tryWithout 26 = .ok (.invokevirtual 63, 3) := by decide +kernel
theorem d_C_tryWithout_29 : decode cc_C_tryWithout 29 = .ok (.aload_n 0, 1) := by decide +kernel
theorem d_C_tryWithout_30 : decode cc_C_tryWithout 30 = .ok (.getfield 34, 3) := by decide +kernel
theorem d_C_tryWithout_33 : decode cc_C_tryWithout 33 = .ok (.invokevirtual 68, 3) := by decide +kernel
theorem d_C_tryWithout_36 : decode cc_C_tryWithout 36 = .ok (.ifCond .eq 11, 3) := by decide +kernel
theorem d_C_tryWithout_39 : decode cc_C_tryWithout 39 = .ok (.aload_n 0, 1) := by decide +kernel
theorem d_C_tryWithout_40 : decode cc_C_tryWithout 40 = .ok (.iconst 1, 1) := by decide +kernel
theorem d_C_tryWithout_41 : decode cc_C_tryWithout 41 = .ok (.putfield 26, 3) := by decide +kernel
theorem d_C_tryWithout_44 : decode cc_C_tryWithout 44 = .ok (.goto 50, 3) := by decide +kernel
theorem d_C_tryWithout_47 : decode cc_C_tryWithout 47 = .ok (.aload_n 0, 1) := by decide +kernel
theorem d_C_tryWithout_48 : decode cc_C_tryWithout 48 = .ok (.getfield 34, 3) := by decide +kernel
theorem d_C_tryWithout_51 : decode cc_C_tryWithout 51 = .ok (.invokevirtual 72, 3) := by decide +kernel
theorem d_C_tryWithout_54 : decode cc_C_tryWithout 54 = .ok (.lconst 0, 1) := by decide +kernel
theorem d_C_tryWithout_55 : decode cc_C_tryWithout 55 = .ok (.lcmp, 1) := by decide +kernel
theorem d_C_tryWithout_56 : decode cc_C_tryWithout 56 = .ok (.ifCond .le 38, 3) := by decide +kernel
theorem d_C_tryWithout_59 : decode cc_C_tryWithout 59 = .ok (.aload_n 0, 1) := by decide +kernel
theorem d_C_tryWithout_60 : decode cc_C_tryWithout 60 = .ok (.getfield 12, 3) := by decide +kernel
theorem d_C_tryWithout_63 : decode cc_C_tryWithout 63 = .ok (.aload_n 3, 1) := by decide +kernel
theorem d_C_tryWithout_64 : decode cc_C_tryWithout 64 = .ok (.iload 5, 2) := by decide +kernel
theorem d_C_tryWithout_66 : decode cc_C_tryWithout 66 = .ok (.invokevirtual 38, 3) := by decide +kernel
theorem d_C_tryWithout_69 : decode cc_C_tryWithout 69 = .ok (.aload_n 0, 1) := by decide +kernel
theorem d_C_tryWithout_70 : decode cc_C_tryWithout 70 = .ok (.getfield 18, 3) := by decide +kernel
theorem d_C_tryWithout_73 : decode cc_C_tryWithout 73 = .ok (.aload_n 0, 1) := by decide +kernel
theorem d_C_tryWithout_74 : decode cc_C_tryWithout 74 = .ok (.getfield 22, 3) := by decide +kernel
theorem d_C_tryWithout_77 : decode cc_C_tryWithout 77 = .ok (.bipush 10, 2) := by decide +kernel
theorem d_C_tryWithout_79 : decode cc_C_tryWithout 79 = .ok (.iload_n 1, 1) := by decide +kernel
theorem d_C_tryWithout_80 : decode cc_C_tryWithout 80 = .ok (.imul, 1) := by decide +kernel
theorem d_C_tryWithout_81 : decode cc_C_tryWithout 81 = .ok (.iload_n 2, 1) := by decide +kernel
theorem d_C_tryWithout_82 : decode cc_C_tryWithout 82 = .ok (.iadd, 1) := by decide +kernel
theorem d_C_tryWithout_83 : decode cc_C_tryWithout 83 = .ok (.iastore, 1) := by decide +kernel
theorem d_C_tryWithout_84 : decode cc_C_tryWithout 84 = .ok (.aload_n 0, 1) := by decide +kernel
theorem d_C_tryWithout_85 : decode cc_C_tryWithout 85 = .ok (.dup, 1) := by decide +kernel
theorem d_C_tryWithout_86 : decode cc_C_tryWithout 86 = .ok (.getfield 22, 3) := by decide +kernel
theorem d_C_tryWithout_89 : decode cc_C_tryWithout 89 = .ok (.iconst 1, 1) := by decide +kernel
theorem d_C_tryWithout_90 : decode cc_C_tryWithout 90 = .ok (.iadd, 1) := by decide +kernel
theorem d_C_tryWithout_91 : decode cc_C_tryWithout 91 = .ok (.putfield 22, 3) := by decide +kernel
theorem d_C_tryWithout_94 : decode cc_C_tryWithout 94 = .ok (.return_, 1) := by decide +kernel
def P_C_tryWithout (a1 : Int32) (a2 : Int32) (a4 : Int32) (z0 : St) (Q : St → Prop) : Prop := P_O_quotaOf a1 a2 z0 (fun (x2 : Int32) (z1 : St) => P_Q_leaveOut x2 z1 (fun (z3 : St) => P_T_build2 a4 z3 (fun (z4 : St) => P_T_isRefused z4 (fun (x6 : Int32) (z5 : St) => ((x6 = 0) → P_T_panels z5 (fun (x8 : Int64) (z7 : St) => ((x8 ≤ (0 : Int64)) → Q z7) ∧ ((¬ x8 ≤ (0 : Int64)) → P_Q_copyOneFrom x2 z7 (fun (z9 : St) => vp_in (z9.1 20 4) 12 ∧ ∀ z10 : St, z10 = wI z9 24 (z9.1 20 4).toNatClampNeg (((10 : Int32) * a1) + a2) → ∀ z11 : St, z11 = wI z10 20 4 ((z10.1 20 4) + (1 : Int32)) → Q z11)))) ∧ ((¬ x6 = 0) → ∀ z12 : St, z12 = wI z5 20 5 (1 : Int32) → Q z12)))))
set_option maxHeartbeats 4000000 in
set_option maxRecDepth 100000 in
theorem c_C_tryWithout {l : Launch} {G : GG} (a1 : Int32) (a2 : Int32) (a4 : Int32) (z0 : St) (Q : St → Prop) (hP : P_C_tryWithout a1 a2 a4 z0 Q) : Ctv l y_C_tryWithout cc_C_tryWithout 6 none rm_C_tryWithout G [.ref (ha G 20), .int a1, .int a2, .ref (ha G 6), .int a4] z0 Q := by
  refine Ctv.op (own := R_C) (by decide) rfl (Nat.le_of_ble_eq_true rfl) (fun p e s m args below meth c ls E hl hW => ?_)
  obtain ⟨hx, hb, hml, hown, hr, hlk, hex, hE⟩ := id E
  have hl : lv_has ls 6 [(0, .ref (ha G 20)), (1, .int a1), (2, .int a2), (3, .ref (ha G 6)), (4, .int a4)] := hl
  refine lv_iload_n hx hb d_C_tryWithout_0 rfl (lv_at hl 1 rfl) ?_
  refine lv_iload_n hx hb d_C_tryWithout_1 rfl (lv_at hl 2 rfl) ?_
  refine yc_i (ySN (As := [.int a1, .int a2]) (rest := []) E (c_O_quotaOf _ _ _ _ hP) (cw_C_47 hE) (by decide) hW hl.1 rfl rfl rfl d_C_tryWithout_2) hW (fun x2 z1 H locs hP hW => ?_)
  refine lv_istore (lv' := [(5, .int x2), (0, .ref (ha G 20)), (1, .int a1), (2, .int a2), (3, .ref (ha G 6)), (4, .int a4)]) hx hb d_C_tryWithout_5 hl (by decide) rfl (fun ls hl => ?_)
  refine lv_aload_n hx hb d_C_tryWithout_7 rfl (lv_at hl 1 rfl) ?_
  refine ygf_20_2 hx hb hown hE hW (lk_C_12 hE) d_C_tryWithout_8 ?_
  refine lv_iload hx hb d_C_tryWithout_11 (lv_at hl 0 rfl) ?_
  refine yc_v (yV (As := [.int x2]) (rest := []) E (c_Q_leaveOut _ _ _ hP) (cw_C_59 hE) (yrv_21 hE hW) (by decide) hW hl.1 rfl rfl rfl d_C_tryWithout_13) hW (fun z3 H locs hP hW => ?_)
  refine lv_aload_n hx hb d_C_tryWithout_16 rfl (lv_at hl 1 rfl) ?_
  refine ygf_20_1 hx hb hown hE hW (lk_C_34 hE) d_C_tryWithout_17 ?_
  refine lv_aload_n hx hb d_C_tryWithout_20 rfl (lv_at hl 1 rfl) ?_
  refine ygf_20_2 hx hb hown hE hW (lk_C_12 hE) d_C_tryWithout_21 ?_
  refine lv_iload hx hb d_C_tryWithout_24 (lv_at hl 5 rfl) ?_
  refine yc_v (yV (As := [.ref (ha G 21), .int a4]) (rest := []) E (c_T_build2 _ _ _ hP) (cw_C_63 hE) (yrv_9 hE hW) (by decide) hW hl.1 rfl rfl rfl d_C_tryWithout_26) hW (fun z4 H locs hP hW => ?_)
  refine lv_aload_n hx hb d_C_tryWithout_29 rfl (lv_at hl 1 rfl) ?_
  refine ygf_20_1 hx hb hown hE hW (lk_C_34 hE) d_C_tryWithout_30 ?_
  refine yc_i (yV (As := []) (rest := []) E (c_T_isRefused _ _ hP) (cw_C_68 hE) (yrv_9 hE hW) (by decide) hW hl.1 rfl rfl rfl d_C_tryWithout_33) hW (fun x6 z5 H locs hP hW => ?_)
  refine lv_if_eq (tgt := 47) hx hb d_C_tryWithout_36 rfl (fun hc => ?_) (fun hc => ?_)
  · have hP := hP.1 hc
    refine lv_aload_n hx hb d_C_tryWithout_47 rfl (lv_at hl 1 rfl) ?_
    refine ygf_20_1 hx hb hown hE hW (lk_C_34 hE) d_C_tryWithout_48 ?_
    refine yc_l (yV (As := []) (rest := []) E (c_T_panels _ _ hP) (cw_C_72 hE) (yrv_9 hE hW) (by decide) hW hl.1 rfl rfl rfl d_C_tryWithout_51) hW (fun x8 z7 H locs hP hW => ?_)
    refine lv_lconst (v := 0) hx hb d_C_tryWithout_54 (by decide) ?_
    refine W.lcmp hx hb d_C_tryWithout_55 ?_
    refine lv_if_le (tgt := 94) hx hb d_C_tryWithout_56 rfl (fun hc => ?_) (fun hc => ?_)
    · have hP := hP.1 (lgc_let hc)
      exact yr_v hx hb hr hlk hW hP d_C_tryWithout_94
    · have hP := hP.2 (lgc_lef hc)
      refine lv_aload_n hx hb d_C_tryWithout_59 rfl (lv_at hl 1 rfl) ?_
      refine ygf_20_2 hx hb hown hE hW (lk_C_12 hE) d_C_tryWithout_60 ?_
      refine lv_aload_n hx hb d_C_tryWithout_63 rfl (lv_at hl 4 rfl) ?_
      refine lv_iload hx hb d_C_tryWithout_64 (lv_at hl 0 rfl) ?_
      refine yc_v (yV (As := [.ref (ha G 6), .int x2]) (rest := []) E (c_Q_copyOneFrom _ _ _ hP) (cw_C_38 hE) (yrv_21 hE hW) (by decide) hW hl.1 rfl rfl rfl d_C_tryWithout_66) hW (fun z9 H locs hP hW => ?_)
      refine lv_aload_n hx hb d_C_tryWithout_69 rfl (lv_at hl 1 rfl) ?_
      refine ygf_20_3 hx hb hown hE hW (lk_C_18 hE) d_C_tryWithout_70 ?_
      refine lv_aload_n hx hb d_C_tryWithout_73 rfl (lv_at hl 1 rfl) ?_
      refine ygf_20_4 hx hb hown hE hW (lk_C_22 hE) d_C_tryWithout_74 ?_
      refine lv_bipush (v := 10) hx hb d_C_tryWithout_77 (by decide) ?_
      refine lv_iload_n hx hb d_C_tryWithout_79 rfl (lv_at hl 2 rfl) ?_
      refine lv_imul hx hb d_C_tryWithout_80 ?_
      refine lv_iload_n hx hb d_C_tryWithout_81 rfl (lv_at hl 3 rfl) ?_
      refine lv_iadd hx hb d_C_tryWithout_82 ?_
      refine ys_24 hx hb hE hW hP.1 d_C_tryWithout_83 (fun z10 H locs e_z10 hW => ?_)
      have hP := hP.2
      have hP := hP z10 e_z10
      refine lv_aload_n hx hb d_C_tryWithout_84 rfl (lv_at hl 1 rfl) ?_
      refine lv_dup hx hb d_C_tryWithout_85 rfl ?_
      refine ygf_20_4 hx hb hown hE hW (lk_C_22 hE) d_C_tryWithout_86 ?_
      refine lv_iconst (v := 1) hx hb d_C_tryWithout_89 (by decide) ?_
      refine lv_iadd hx hb d_C_tryWithout_90 ?_
      refine ypf_20_4 hx hb hown hE hW (lk_C_22 hE) d_C_tryWithout_91 (fun z11 H locs e_z11 hW => ?_)
      have hP := hP z11 e_z11
      exact yr_v hx hb hr hlk hW hP d_C_tryWithout_94
  · have hP := hP.2 hc
    refine lv_aload_n hx hb d_C_tryWithout_39 rfl (lv_at hl 1 rfl) ?_
    refine lv_iconst (v := 1) hx hb d_C_tryWithout_40 (by decide) ?_
    refine ypf_20_5 hx hb hown hE hW zb_1 (lk_C_26 hE) d_C_tryWithout_41 (fun z12 H locs e_z12 hW => ?_)
    have hP := hP z12 e_z12
    refine lv_goto (tgt := 94) hx hb d_C_tryWithout_44 rfl ?_
    exact yr_v hx hb hr hlk hW hP d_C_tryWithout_94
theorem d_C_find_0 : decode cc_C_find 0 = .ok (.aload_n 0, 1) := by decide +kernel
theorem d_C_find_1 : decode cc_C_find 1 = .ok (.iconst 0, 1) := by decide +kernel
theorem d_C_find_2 : decode cc_C_find 2 = .ok (.putfield 22, 3) := by decide +kernel
theorem d_C_find_5 : decode cc_C_find 5 = .ok (.aload_n 0, 1) := by decide +kernel
theorem d_C_find_6 : decode cc_C_find 6 = .ok (.iconst 0, 1) := by decide +kernel
theorem d_C_find_7 : decode cc_C_find 7 = .ok (.putfield 26, 3) := by decide +kernel
theorem d_C_find_10 : decode cc_C_find 10 = .ok (.iconst 0, 1) := by decide +kernel
theorem d_C_find_11 : decode cc_C_find 11 = .ok (.istore_n 3, 1) := by decide +kernel
theorem d_C_find_12 : decode cc_C_find 12 = .ok (.iload_n 3, 1) := by decide +kernel
theorem d_C_find_13 : decode cc_C_find 13 = .ok (.bipush 12, 2) := by decide +kernel
theorem d_C_find_15 : decode cc_C_find 15 = .ok (.if_icmp .ge 18, 3) := by decide +kernel
theorem d_C_find_18 : decode cc_C_find 18 = .ok (.aload_n 0, 1) := by decide +kernel
theorem d_C_find_19 : decode cc_C_find 19 = .ok (.getfield 12, 3) := by decide +kernel
theorem d_C_find_22 : decode cc_C_find 22 = .ok (.aload_n 1, 1) := by decide +kernel
theorem d_C_find_23 : decode cc_C_find 23 = .ok (.iload_n 3, 1) := by decide +kernel
theorem d_C_find_24 : decode cc_C_find 24 = .ok (.invokevirtual 38, 3) := by decide +kernel
theorem d_C_find_27 : decode cc_C_find 27 = .ok (.iinc 3 1, 3) := by decide +kernel
theorem d_C_find_30 : decode cc_C_find 30 = .ok (.goto (-18), 3) := by decide +kernel
theorem d_C_find_33 : decode cc_C_find 33 = .ok (.iconst 0, 1) := by decide +kernel
theorem d_C_find_34 : decode cc_C_find 34 = .ok (.istore_n 3, 1) := by decide +kernel
theorem d_C_find_35 : decode cc_C_find 35 = .ok (.iload_n 3, 1) := by decide +kernel
theorem d_C_find_36 : decode cc_C_find 36 = .ok (.iconst 3, 1) := by decide +kernel
theorem d_C_find_37 : decode cc_C_find 37 = .ok (.if_icmp .ge 61, 3) := by decide +kernel
theorem d_C_find_40 : decode cc_C_find 40 = .ok (.iconst 0, 1) := by decide +kernel
theorem d_C_find_41 : decode cc_C_find 41 = .ok (.istore 4, 2) := by decide +kernel
theorem d_C_find_43 : decode cc_C_find 43 = .ok (.iload 4, 2) := by decide +kernel
theorem d_C_find_45 : decode cc_C_find 45 = .ok (.aload_n 0, 1) := by decide +kernel
theorem d_C_find_46 : decode cc_C_find 46 = .ok (.getfield 30, 3) := by decide +kernel
theorem d_C_find_49 : decode cc_C_find 49 = .ok (.getfield 42, 3) := by decide +kernel
theorem d_C_find_52 : decode cc_C_find 52 = .ok (.iload_n 3, 1) := by decide +kernel
theorem d_C_find_53 : decode cc_C_find 53 = .ok (.iaload, 1) := by decide +kernel
theorem d_C_find_54 : decode cc_C_find 54 = .ok (.if_icmp .ge 38, 3) := by decide +kernel
theorem d_C_find_57 : decode cc_C_find 57 = .ok (.aload_n 0, 1) := by decide +kernel
theorem d_C_find_58 : decode cc_C_find 58 = .ok (.getfield 26, 3) := by decide +kernel
theorem d_C_find_61 : decode cc_C_find 61 = .ok (.ifCond .ne 31, 3) := by decide +kernel
theorem d_C_find_64 : decode cc_C_find 64 = .ok (.aload_n 1, 1) := by decide +kernel
theorem d_C_find_65 : decode cc_C_find 65 = .ok (.iload_n 3, 1) := by decide +kernel
theorem d_C_find_66 : decode cc_C_find 66 = .ok (.iload 4, 2) := by decide +kernel
theorem d_C_find_68 : decode cc_C_find 68 = .ok (.invokestatic 47, 3) := by decide +kernel
theorem d_C_find_71 : decode cc_C_find 71 = .ok (.invokevirtual 51, 3) := by decide +kernel
theorem d_C_find_74 : decode cc_C_find 74 = .ok (.ifCond .ne 12, 3) := by decide +kernel
theorem d_C_find_77 : decode cc_C_find 77 = .ok (.aload_n 0, 1) := by decide +kernel
theorem d_C_find_78 : decode cc_C_find 78 = .ok (.iload_n 3, 1) := by decide +kernel
theorem d_C_find_79 : decode cc_C_find 79 = .ok (.iload 4, 2) := by decide +kernel
theorem d_C_find_81 : decode cc_C_find 81 = .ok (.aload_n 1, 1) := by decide +kernel
theorem d_C_find_82 : decode cc_C_find 82 = .ok (.iload_n 2, 1) := by decide +kernel
theorem d_C_find_83 : decode cc_C_find 83 = .ok (.invokevirtual 55, 3) := by decide +kernel
theorem d_C_find_86 : decode cc_C_find 86 = .ok (.iinc 4 1, 3) := by decide +kernel
theorem d_C_find_89 : decode cc_C_find 89 = .ok (.goto (-46), 3) := by decide +kernel
theorem d_C_find_92 : decode cc_C_find 92 = .ok (.iinc 3 1, 3) := by decide +kernel
theorem d_C_find_95 : decode cc_C_find 95 = .ok (.goto (-60), 3) := by decide +kernel
theorem d_C_find_98 : decode cc_C_find 98 = .ok (.return_, 1) := by decide +kernel
def L_C_find_12 (K33 : Int32 → St → Prop) (Q : St → Prop) : Nat → Int32 → Int32 → St → Prop
  | 0, _, _, _ => False
  | n + 1, v2, v3, z0 => (((12 : Int32) ≤ v3) → K33 v2 z0) ∧ ((¬ (12 : Int32) ≤ v3) → P_Q_copyOneFrom v3 z0 (fun (z3 : St) => ∀ x4 : Int32, x4 = v3 + 1 → L_C_find_12 K33 Q n v2 x4 z3))
def L_C_find_43 (K92 : Int32 → Int32 → St → Prop) (Q : St → Prop) : Nat → Int32 → Int32 → Int32 → St → Prop
  | 0, _, _, _, _ => False
  | n + 1, v2, v3, v4, z0 => vp_in v3 3 ∧ (((z0.1 2 v3.toNatClampNeg) ≤ v4) → K92 v2 v3 z0) ∧ ((¬ (z0.1 2 v3.toNatClampNeg) ≤ v4) → ((¬ (z0.1 20 5) = 0) → K92 v2 v3 z0) ∧ (((z0.1 20 5) = 0) → P_O_quotaOf v3 v4 z0 (fun (x8 : Int32) (z7 : St) => P_Q_isLeftOut x8 z7 (fun (x10 : Int32) (z9 : St) => ((¬ x10 = 0) → ∀ x11 : Int32, x11 = v4 + 1 → L_C_find_43 K92 Q n v2 v3 x11 z9) ∧ ((x10 = 0) → P_C_tryWithout v3 v4 v2 z9 (fun (z12 : St) => ∀ x13 : Int32, x13 = v4 + 1 → L_C_find_43 K92 Q n v2 v3 x13 z12))))))
def L_C_find_35 (Q : St → Prop) : Nat → Int32 → Int32 → St → Prop
  | 0, _, _, _ => False
  | n + 1, v2, v3, z0 => (((3 : Int32) ≤ v3) → Q z0) ∧ ((¬ (3 : Int32) ≤ v3) → ∃ k43 : Nat, L_C_find_43 (fun (x14 : Int32) (x15 : Int32) (z16 : St) => ∀ x17 : Int32, x17 = x15 + 1 → L_C_find_35 Q n x14 x17 z16) Q k43 v2 v3 (0 : Int32) z0)
def P_C_find (a2 : Int32) (z0 : St) (Q : St → Prop) : Prop := ∀ z1 : St, z1 = wI z0 20 4 (0 : Int32) → ∀ z2 : St, z2 = wI z1 20 5 (0 : Int32) → ∃ k12 : Nat, L_C_find_12 (fun (x5 : Int32) (z6 : St) => ∃ k35 : Nat, L_C_find_35 Q k35 x5 (0 : Int32) z6) Q k12 a2 (0 : Int32) z2
set_option maxHeartbeats 4000000 in
set_option maxRecDepth 100000 in
theorem wL_C_find_12 {K33 : Int32 → St → Prop} {Q : St → Prop} (E : En p l s m meth c args cc_C_find 5 R_C none G)
    (hK33 : ∀ (v2 : Int32) (z0 : St) (ls : Array Slot) (H : Heap) (locs : List Loc), K33 v2 z0 → lv_has ls 5 [(0, .ref (ha G 20)), (1, .ref (ha G 6)), (2, .int v2)] → Wd G z0 s.heap H locs → W p l e rm_C_find s m args below meth c H locs 0 0 (MQ below (QvR Q G) args s 0 0 (fr G)) (F0 m 33 ls [])) :
    ∀ (n : Nat) (v2 : Int32) (v3 : Int32) (z0 : St) (ls : Array Slot) (H : Heap) (locs : List Loc), L_C_find_12 K33 Q n v2 v3 z0 → lv_has ls 5 [(0, .ref (ha G 20)), (1, .ref (ha G 6)), (2, .int v2), (3, .int v3)] → Wd G z0 s.heap H locs → W p l e rm_C_find s m args below meth c H locs 0 0 (MQ below (QvR Q G) args s 0 0 (fr G)) (F0 m 12 ls []) := by
  obtain ⟨hx, hb, hml, hown, hr, hlk, hex, hE⟩ := id E
  intro n
  induction n with
  | zero => exact fun _ _ _ _ _ _ hP _ _ => hP.elim
  | succ n ih =>
    intro v2 v3 z0 ls H locs hP hl hW
    refine lv_iload_n hx hb d_C_find_12 rfl (lv_at hl 3 rfl) ?_
    refine lv_bipush (v := 12) hx hb d_C_find_13 (by decide) ?_
    refine lv_icmp_ge (tgt := 33) hx hb d_C_find_15 rfl (fun hc => ?_) (fun hc => ?_)
    · have hP := hP.1 hc
      exact hK33 _ _ _ _ _ hP (lv_sub hl [0, 1, 2] rfl) hW
    · have hP := hP.2 hc
      refine lv_aload_n hx hb d_C_find_18 rfl (lv_at hl 0 rfl) ?_
      refine ygf_20_2 hx hb hown hE hW (lk_C_12 hE) d_C_find_19 ?_
      refine lv_aload_n hx hb d_C_find_22 rfl (lv_at hl 1 rfl) ?_
      refine lv_iload_n hx hb d_C_find_23 rfl (lv_at hl 3 rfl) ?_
      refine yc_v (yV (As := [.ref (ha G 6), .int v3]) (rest := []) E (c_Q_copyOneFrom _ _ _ hP) (cw_C_38 hE) (yrv_21 hE hW) (by decide) hW hl.1 rfl rfl rfl d_C_find_24) hW (fun z3 H locs hP hW => ?_)
      obtain ⟨x4, e_x4⟩ : ∃ z : Int32, z = v3 + 1 := ⟨_, rfl⟩
      have hP := hP x4 e_x4
      refine lv_iinc (k := 3) (lv' := [(3, .int x4), (0, .ref (ha G 20)), (1, .ref (ha G 6)), (2, .int v2)]) hx hb d_C_find_27 hl rfl (ii_p1 e_x4) (by decide) rfl (fun ls hl => ?_)
      refine lv_goto (tgt := 12) hx hb d_C_find_30 rfl ?_
      exact ih _ _ _ _ _ _ hP (lv_sub hl [1, 2, 3, 0] rfl) hW
set_option maxHeartbeats 4000000 in
set_option maxRecDepth 100000 in
theorem wL_C_find_43 {K92 : Int32 → Int32 → St → Prop} {Q : St → Prop} (E : En p l s m meth c args cc_C_find 5 R_C none G)
    (hK92 : ∀ (v2 : Int32) (v3 : Int32) (z0 : St) (ls : Array Slot) (H : Heap) (locs : List Loc), K92 v2 v3 z0 → lv_has ls 5 [(0, .ref (ha G 20)), (1, .ref (ha G 6)), (2, .int v2), (3, .int v3)] → Wd G z0 s.heap H locs → W p l e rm_C_find s m args below meth c H locs 0 0 (MQ below (QvR Q G) args s 0 0 (fr G)) (F0 m 92 ls [])) :
    ∀ (n : Nat) (v2 : Int32) (v3 : Int32) (v4 : Int32) (z0 : St) (ls : Array Slot) (H : Heap) (locs : List Loc), L_C_find_43 K92 Q n v2 v3 v4 z0 → lv_has ls 5 [(0, .ref (ha G 20)), (1, .ref (ha G 6)), (2, .int v2), (3, .int v3), (4, .int v4)] → Wd G z0 s.heap H locs → W p l e rm_C_find s m args below meth c H locs 0 0 (MQ below (QvR Q G) args s 0 0 (fr G)) (F0 m 43 ls []) := by
  obtain ⟨hx, hb, hml, hown, hr, hlk, hex, hE⟩ := id E
  intro n
  induction n with
  | zero => exact fun _ _ _ _ _ _ _ hP _ _ => hP.elim
  | succ n ih =>
    intro v2 v3 v4 z0 ls H locs hP hl hW
    refine lv_iload hx hb d_C_find_43 (lv_at hl 4 rfl) ?_
    refine lv_aload_n hx hb d_C_find_45 rfl (lv_at hl 0 rfl) ?_
    refine ygf_20_0 hx hb hown hE hW (lk_C_30 hE) d_C_find_46 ?_
    refine ygn_1_0 hx hb hown hE hW (lk_C_42 hE) d_C_find_49 ?_
    refine lv_iload_n hx hb d_C_find_52 rfl (lv_at hl 3 rfl) ?_
    refine ya_2 hx hb hE hW hP.1 d_C_find_53 ?_
    have hP := hP.2
    refine lv_icmp_ge (tgt := 92) hx hb d_C_find_54 rfl (fun hc => ?_) (fun hc => ?_)
    · have hP := hP.1 hc
      exact hK92 _ _ _ _ _ _ hP (lv_sub hl [0, 1, 2, 3] rfl) hW
    · have hP := hP.2 hc
      refine lv_aload_n hx hb d_C_find_57 rfl (lv_at hl 0 rfl) ?_
      refine ygf_20_5 hx hb hown hE hW (lk_C_26 hE) d_C_find_58 ?_
      refine lv_if_ne (tgt := 92) hx hb d_C_find_61 rfl (fun hc => ?_) (fun hc => ?_)
      · have hP := hP.1 hc
        exact hK92 _ _ _ _ _ _ hP (lv_sub hl [0, 1, 2, 3] rfl) hW
      · have hP := hP.2 hc
        refine lv_aload_n hx hb d_C_find_64 rfl (lv_at hl 1 rfl) ?_
        refine lv_iload_n hx hb d_C_find_65 rfl (lv_at hl 3 rfl) ?_
        refine lv_iload hx hb d_C_find_66 (lv_at hl 4 rfl) ?_
        refine yc_i (ySN (As := [.int v3, .int v4]) (rest := [.ref (ha G 6)]) E (c_O_quotaOf _ _ _ _ hP) (cw_C_47 hE) (by decide) hW hl.1 rfl rfl rfl d_C_find_68) hW (fun x8 z7 H locs hP hW => ?_)
        refine yc_i (yV (As := [.int x8]) (rest := []) E (c_Q_isLeftOut _ _ _ hP) (cw_C_51 hE) (yrv_6 hE hW) (by decide) hW hl.1 rfl rfl rfl d_C_find_71) hW (fun x10 z9 H locs hP hW => ?_)
        refine lv_if_ne (tgt := 86) hx hb d_C_find_74 rfl (fun hc => ?_) (fun hc => ?_)
        · have hP := hP.1 hc
          obtain ⟨x11, e_x11⟩ : ∃ z : Int32, z = v4 + 1 := ⟨_, rfl⟩
          have hP := hP x11 e_x11
          refine lv_iinc (k := 4) (lv' := [(4, .int x11), (0, .ref (ha G 20)), (1, .ref (ha G 6)), (2, .int v2), (3, .int v3)]) hx hb d_C_find_86 hl rfl (ii_p1 e_x11) (by decide) rfl (fun ls hl => ?_)
          refine lv_goto (tgt := 43) hx hb d_C_find_89 rfl ?_
          exact ih _ _ _ _ _ _ _ hP (lv_sub hl [1, 2, 3, 4, 0] rfl) hW
        · have hP := hP.2 hc
          refine lv_aload_n hx hb d_C_find_77 rfl (lv_at hl 0 rfl) ?_
          refine lv_iload_n hx hb d_C_find_78 rfl (lv_at hl 3 rfl) ?_
          refine lv_iload hx hb d_C_find_79 (lv_at hl 4 rfl) ?_
          refine lv_aload_n hx hb d_C_find_81 rfl (lv_at hl 1 rfl) ?_
          refine lv_iload_n hx hb d_C_find_82 rfl (lv_at hl 2 rfl) ?_
          refine yc_v (yV (As := [.int v3, .int v4, .ref (ha G 6), .int v2]) (rest := []) E (c_C_tryWithout _ _ _ _ _ hP) (cw_C_55 hE) (yrv_20 hE hW) (by decide) hW hl.1 rfl rfl rfl d_C_find_83) hW (fun z12 H locs hP hW => ?_)
          obtain ⟨x13, e_x13⟩ : ∃ z : Int32, z = v4 + 1 := ⟨_, rfl⟩
          have hP := hP x13 e_x13
          refine lv_iinc (k := 4) (lv' := [(4, .int x13), (0, .ref (ha G 20)), (1, .ref (ha G 6)), (2, .int v2), (3, .int v3)]) hx hb d_C_find_86 hl rfl (ii_p1 e_x13) (by decide) rfl (fun ls hl => ?_)
          refine lv_goto (tgt := 43) hx hb d_C_find_89 rfl ?_
          exact ih _ _ _ _ _ _ _ hP (lv_sub hl [1, 2, 3, 4, 0] rfl) hW
set_option maxHeartbeats 4000000 in
set_option maxRecDepth 100000 in
theorem wL_C_find_35 {Q : St → Prop} (E : En p l s m meth c args cc_C_find 5 R_C none G) :
    ∀ (n : Nat) (v2 : Int32) (v3 : Int32) (z0 : St) (ls : Array Slot) (H : Heap) (locs : List Loc), L_C_find_35 Q n v2 v3 z0 → lv_has ls 5 [(0, .ref (ha G 20)), (1, .ref (ha G 6)), (2, .int v2), (3, .int v3)] → Wd G z0 s.heap H locs → W p l e rm_C_find s m args below meth c H locs 0 0 (MQ below (QvR Q G) args s 0 0 (fr G)) (F0 m 35 ls []) := by
  obtain ⟨hx, hb, hml, hown, hr, hlk, hex, hE⟩ := id E
  intro n
  induction n with
  | zero => exact fun _ _ _ _ _ _ hP _ _ => hP.elim
  | succ n ih =>
    intro v2 v3 z0 ls H locs hP hl hW
    refine lv_iload_n hx hb d_C_find_35 rfl (lv_at hl 3 rfl) ?_
    refine lv_iconst (v := 3) hx hb d_C_find_36 (by decide) ?_
    refine lv_icmp_ge (tgt := 98) hx hb d_C_find_37 rfl (fun hc => ?_) (fun hc => ?_)
    · have hP := hP.1 hc
      exact yr_v hx hb hr hlk hW hP d_C_find_98
    · have hP := hP.2 hc
      refine lv_iconst (v := 0) hx hb d_C_find_40 (by decide) ?_
      refine lv_istore (lv' := [(4, .int (0 : Int32)), (0, .ref (ha G 20)), (1, .ref (ha G 6)), (2, .int v2), (3, .int v3)]) hx hb d_C_find_41 hl (by decide) rfl (fun ls hl => ?_)
      obtain ⟨n2, hP⟩ := hP
      refine wL_C_find_43 E ?_ n2 _ _ _ _ _ _ _ hP (lv_sub hl [1, 2, 3, 4, 0] rfl) hW
      · intro x14 x15 z16 ls H locs hP hl hW
        obtain ⟨x17, e_x17⟩ : ∃ z : Int32, z = x15 + 1 := ⟨_, rfl⟩
        have hP := hP x17 e_x17
        refine lv_iinc (k := 3) (lv' := [(3, .int x17), (0, .ref (ha G 20)), (1, .ref (ha G 6)), (2, .int x14)]) hx hb d_C_find_92 hl rfl (ii_p1 e_x17) (by decide) rfl (fun ls hl => ?_)
        refine lv_goto (tgt := 35) hx hb d_C_find_95 rfl ?_
        exact ih _ _ _ _ _ _ hP (lv_sub hl [1, 2, 3, 0] rfl) hW
set_option maxHeartbeats 4000000 in
set_option maxRecDepth 100000 in
theorem c_C_find {l : Launch} {G : GG} (a2 : Int32) (z0 : St) (Q : St → Prop) (hP : P_C_find a2 z0 Q) : Ctv l y_C_find cc_C_find 5 none rm_C_find G [.ref (ha G 20), .ref (ha G 6), .int a2] z0 Q := by
  refine Ctv.op (own := R_C) (by decide) rfl (Nat.le_of_ble_eq_true rfl) (fun p e s m args below meth c ls E hl hW => ?_)
  obtain ⟨hx, hb, hml, hown, hr, hlk, hex, hE⟩ := id E
  have hl : lv_has ls 5 [(0, .ref (ha G 20)), (1, .ref (ha G 6)), (2, .int a2)] := hl
  refine lv_aload_n hx hb d_C_find_0 rfl (lv_at hl 0 rfl) ?_
  refine lv_iconst (v := 0) hx hb d_C_find_1 (by decide) ?_
  refine ypf_20_4 hx hb hown hE hW (lk_C_22 hE) d_C_find_2 (fun z1 H locs e_z1 hW => ?_)
  have hP := hP z1 e_z1
  refine lv_aload_n hx hb d_C_find_5 rfl (lv_at hl 0 rfl) ?_
  refine lv_iconst (v := 0) hx hb d_C_find_6 (by decide) ?_
  refine ypf_20_5 hx hb hown hE hW zb_0 (lk_C_26 hE) d_C_find_7 (fun z2 H locs e_z2 hW => ?_)
  have hP := hP z2 e_z2
  refine lv_iconst (v := 0) hx hb d_C_find_10 (by decide) ?_
  refine lv_istore_n (lv' := [(3, .int (0 : Int32)), (0, .ref (ha G 20)), (1, .ref (ha G 6)), (2, .int a2)]) hx hb d_C_find_11 rfl hl (by decide) rfl (fun ls hl => ?_)
  obtain ⟨n2, hP⟩ := hP
  refine wL_C_find_12 E ?_ n2 _ _ _ _ _ _ hP (lv_sub hl [1, 2, 3, 0] rfl) hW
  · intro x5 z6 ls H locs hP hl hW
    refine lv_iconst (v := 0) hx hb d_C_find_33 (by decide) ?_
    refine lv_istore_n (lv' := [(3, .int (0 : Int32)), (0, .ref (ha G 20)), (1, .ref (ha G 6)), (2, .int x5)]) hx hb d_C_find_34 rfl hl (by decide) rfl (fun ls hl => ?_)
    obtain ⟨n2, hP⟩ := hP
    refine wL_C_find_35 E n2 _ _ _ _ _ _ hP (lv_sub hl [1, 2, 3, 0] rfl) hW
theorem d_O_blocked_0 : decode cc_O_blocked 0 = .ok (.iload_n 1, 1) := by decide +kernel
theorem d_O_blocked_1 : decode cc_O_blocked 1 = .ok (.invokestatic 169, 3) := by decide +kernel
theorem d_O_blocked_4 : decode cc_O_blocked 4 = .ok (.aload_n 0, 1) := by decide +kernel
theorem d_O_blocked_5 : decode cc_O_blocked 5 = .ok (.invokevirtual 137, 3) := by decide +kernel
theorem d_O_blocked_8 : decode cc_O_blocked 8 = .ok (.aload_n 0, 1) := by decide +kernel
theorem d_O_blocked_9 : decode cc_O_blocked 9 = .ok (.getfield 28, 3) := by decide +kernel
theorem d_O_blocked_12 : decode cc_O_blocked 12 = .ok (.invokevirtual 140, 3) := by decide +kernel
theorem d_O_blocked_15 : decode cc_O_blocked 15 = .ok (.lconst 0, 1) := by decide +kernel
theorem d_O_blocked_16 : decode cc_O_blocked 16 = .ok (.lcmp, 1) := by decide +kernel
theorem d_O_blocked_17 : decode cc_O_blocked 17 = .ok (.ifCond .le 5, 3) := by decide +kernel
theorem d_O_blocked_20 : decode cc_O_blocked 20 = .ok (.iconst (-1), 1) := by decide +kernel
theorem d_O_blocked_21 : decode cc_O_blocked 21 = .ok (.ireturn, 1) := by decide +kernel
theorem d_O_blocked_22 : decode cc_O_blocked 22 = .ok (.aload_n 0, 1) := by decide +kernel
theorem d_O_blocked_23 : decode cc_O_blocked 23 = .ok (.getfield 80, 3) := by decide +kernel
theorem d_O_blocked_26 : decode cc_O_blocked 26 = .ok (.ifCond .ne 28, 3) := by decide +kernel
theorem d_O_blocked_29 : decode cc_O_blocked 29 = .ok (.aload_n 0, 1) := by decide +kernel
theorem d_O_blocked_30 : decode cc_O_blocked 30 = .ok (.getfield 44, 3) := by decide +kernel
theorem d_O_blocked_33 : decode cc_O_blocked 33 = .ok (.aload_n 0, 1) := by decide +kernel
theorem d_O_blocked_34 : decode cc_O_blocked 34 = .ok (.getfield 19, 3) := by decide +kernel
theorem d_O_blocked_37 : decode cc_O_blocked 37 = .ok (.aload_n 0, 1) := by decide +kernel
theorem d_O_blocked_38 : decode cc_O_blocked 38 = .ok (.getfield 68, 3) := by decide +kernel
theorem d_O_blocked_41 : decode cc_O_blocked 41 = .ok (.invokevirtual 172, 3) := by decide +kernel
theorem d_O_blocked_44 : decode cc_O_blocked 44 = .ok (.aload_n 0, 1) := by decide +kernel
theorem d_O_blocked_45 : decode cc_O_blocked 45 = .ok (.iconst 1, 1) := by decide +kernel
theorem d_O_blocked_46 : decode cc_O_blocked 46 = .ok (.putfield 80, 3) := by decide +kernel
theorem d_O_blocked_49 : decode cc_O_blocked 49 = .ok (.aload_n 0, 1) := by decide +kernel
theorem d_O_blocked_50 : decode cc_O_blocked 50 = .ok (.iconst 0, 1) := by decide +kernel
theorem d_O_blocked_51 : decode cc_O_blocked 51 = .ok (.putfield 76, 3) := by decide +kernel
theorem d_O_blocked_54 : decode cc_O_blocked 54 = .ok (.aload_n 0, 1) := by decide +kernel
theorem d_O_blocked_55 : decode cc_O_blocked 55 = .ok (.getfield 44, 3) := by decide +kernel
theorem d_O_blocked_58 : decode cc_O_blocked 58 = .ok (.invokevirtual 176, 3) := by decide +kernel
theorem d_O_blocked_61 : decode cc_O_blocked 61 = .ok (.ifCond .eq 13, 3) := by decide +kernel
theorem d_O_blocked_64 : decode cc_O_blocked 64 = .ok (.new 177, 3) := by decide +kernel
theorem d_O_blocked_67 : decode cc_O_blocked 67 = .ok (.dup, 1) := by decide +kernel
theorem d_O_blocked_68 : decode cc_O_blocked 68 = .ok (.ldc 179, 2) := by decide +kernel
theorem d_O_blocked_70 : decode cc_O_blocked 70 = .ok (.invokespecial 181, 3) := by decide +kernel
theorem d_O_blocked_73 : decode cc_O_blocked 73 = .ok (.athrow, 1) := by decide +kernel
theorem d_O_blocked_74 : decode cc_O_blocked 74 = .ok (.aload_n 0, 1) := by decide +kernel
theorem d_O_blocked_75 : decode cc_O_blocked 75 = .ok (.getfield 44, 3) := by decide +kernel
theorem d_O_blocked_78 : decode cc_O_blocked 78 = .ok (.iload_n 1, 1) := by decide +kernel
theorem d_O_blocked_79 : decode cc_O_blocked 79 = .ok (.invokevirtual 182, 3) := by decide +kernel
theorem d_O_blocked_82 : decode cc_O_blocked 82 = .ok (.ireturn, 1) := by decide +kernel
def J_O_blocked_54 (Q : Int32 → St → Prop) (X : Nat → St → Prop) (v1 : Int32) (z0 : St) : Prop := P_C_isRefused z0 (fun (x6 : Int32) (z5 : St) => ((x6 = 0) → P_C_nameOf v1 z5 (fun (x8 : Int32) (z7 : St) => Q x8 z7)) ∧ ((¬ x6 = 0) → X 3 z5))
def P_O_blocked (a1 : Int32) (z0 : St) (Q : Int32 → St → Prop) (X : Nat → St → Prop) : Prop := P_O_requireIndex a1 z0 (fun (z1 : St) => P_O_requireCountable z1 (fun (z2 : St) => P_T_panels z2 (fun (x4 : Int64) (z3 : St) => ((x4 ≤ (0 : Int64)) → ((¬ (z3.1 0 11) = 0) → J_O_blocked_54 Q X a1 z3) ∧ (((z3.1 0 11) = 0) → P_C_find (z3.1 0 8) z3 (fun (z9 : St) => ∀ z10 : St, z10 = wI z9 0 11 (1 : Int32) → ∀ z11 : St, z11 = wI z10 0 10 (0 : Int32) → J_O_blocked_54 Q X a1 z11))) ∧ ((¬ x4 ≤ (0 : Int64)) → Q (-1 : Int32) z3))) X) X
set_option maxHeartbeats 4000000 in
set_option maxRecDepth 100000 in
theorem wJ_O_blocked_54 {Q : Int32 → St → Prop} {X : Nat → St → Prop} (E : En p l s m meth c args cc_O_blocked 2 R_O (some .int) G)
    (v1 : Int32) (z0 : St) (ls : Array Slot) (H : Heap) (locs : List Loc) (hP : J_O_blocked_54 Q X v1 z0) (hl : lv_has ls 2 [(0, .ref (ha G 0)), (1, .int v1)]) (hW : Wd G z0 s.heap H locs) : W p l e rm_O_blocked s m args below meth c H locs 0 0 (MQX below (QiX Q X G) args s (fr G)) (F0 m 54 ls []) := by
  obtain ⟨hx, hb, hml, hown, hr, hlk, hex, hE⟩ := id E
  refine lv_aload_n hx hb d_O_blocked_54 rfl (lv_at hl 0 rfl) ?_
  refine ygf_0_4 hx hb hown hE hW (lk_O_44 hE) d_O_blocked_55 ?_
  refine yc_i (yV (As := []) (rest := []) E (c_C_isRefused _ _ hP) (cw_O_176 hE) (yrv_20 hE hW) (by decide) hW hl.1 rfl rfl rfl d_O_blocked_58) hW (fun x6 z5 H locs hP hW => ?_)
  refine lv_if_eq (tgt := 74) hx hb d_O_blocked_61 rfl (fun hc => ?_) (fun hc => ?_)
  · have hP := hP.1 hc
    refine lv_aload_n hx hb d_O_blocked_74 rfl (lv_at hl 0 rfl) ?_
    refine ygf_0_4 hx hb hown hE hW (lk_O_44 hE) d_O_blocked_75 ?_
    refine lv_iload_n hx hb d_O_blocked_78 rfl (lv_at hl 1 rfl) ?_
    refine yc_i (yV (As := [.int v1]) (rest := []) E (c_C_nameOf _ _ _ hP) (cw_O_182 hE) (yrv_20 hE hW) (by decide) hW hl.1 rfl rfl rfl d_O_blocked_79) hW (fun x8 z7 H locs hP hW => ?_)
    exact yr_iX hx hb hr hlk hW hP d_O_blocked_82
  · have hP := hP.2 hc
    exact yt (k := 3) hx hb hown hlk hex hE hW hl.1 hml (by decide) (by decide) (fun _ h => lt_O_3_179 h) d_O_blocked_64 d_O_blocked_67 (Or.inl ⟨d_O_blocked_68, rfl⟩) d_O_blocked_70 d_O_blocked_73 hP (fun _ _ h1 h2 => Or.inr ⟨h1, h2⟩)
set_option maxHeartbeats 4000000 in
set_option maxRecDepth 100000 in
theorem c_O_blocked {l : Launch} {G : GG} (a1 : Int32) (z0 : St) (Q : Int32 → St → Prop) (X : Nat → St → Prop) (hP : P_O_blocked a1 z0 Q X) : CtiX l y_O_blocked cc_O_blocked 2 (some .int) rm_O_blocked G [.ref (ha G 0), .int a1] z0 Q X := by
  refine CtiX.op (own := R_O) (by decide) rfl (Nat.le_of_ble_eq_true rfl) (fun p e s m args below meth c ls E hl hW => ?_)
  obtain ⟨hx, hb, hml, hown, hr, hlk, hex, hE⟩ := id E
  have hl : lv_has ls 2 [(0, .ref (ha G 0)), (1, .int a1)] := hl
  refine lv_iload_n hx hb d_O_blocked_0 rfl (lv_at hl 1 rfl) ?_
  refine yx_v (ySX (As := [.int a1]) (rest := []) E (c_O_requireIndex _ _ _ _ hP) (cw_O_169 hE) (by decide) hW hl.1 rfl rfl rfl d_O_blocked_1) hW (fun z1 H locs hP hW => ?_) hlk hex (fun _ _ h1 h2 => Or.inr ⟨h1, h2⟩)
  refine lv_aload_n hx hb d_O_blocked_4 rfl (lv_at hl 0 rfl) ?_
  refine yx_v (yVX (As := []) (rest := []) E (c_O_requireCountable _ _ _ hP) (cw_O_137 hE) (yrv_0 hE hW) (by decide) hW hl.1 rfl rfl rfl d_O_blocked_5) hW (fun z2 H locs hP hW => ?_) hlk hex (fun _ _ h1 h2 => Or.inr ⟨h1, h2⟩)
  refine lv_aload_n hx hb d_O_blocked_8 rfl (lv_at hl 0 rfl) ?_
  refine ygf_0_2 hx hb hown hE hW (lk_O_28 hE) d_O_blocked_9 ?_
  refine yc_l (yV (As := []) (rest := []) E (c_T_panels _ _ hP) (cw_O_140 hE) (yrv_9 hE hW) (by decide) hW hl.1 rfl rfl rfl d_O_blocked_12) hW (fun x4 z3 H locs hP hW => ?_)
  refine lv_lconst (v := 0) hx hb d_O_blocked_15 (by decide) ?_
  refine W.lcmp hx hb d_O_blocked_16 ?_
  refine lv_if_le (tgt := 22) hx hb d_O_blocked_17 rfl (fun hc => ?_) (fun hc => ?_)
  · have hP := hP.1 (lgc_let hc)
    refine lv_aload_n hx hb d_O_blocked_22 rfl (lv_at hl 0 rfl) ?_
    refine ygf_0_11 hx hb hown hE hW (lk_O_80 hE) d_O_blocked_23 ?_
    refine lv_if_ne (tgt := 54) hx hb d_O_blocked_26 rfl (fun hc => ?_) (fun hc => ?_)
    · have hP := hP.1 hc
      exact wJ_O_blocked_54 E _ _ _ _ _ hP hl hW
    · have hP := hP.2 hc
      refine lv_aload_n hx hb d_O_blocked_29 rfl (lv_at hl 0 rfl) ?_
      refine ygf_0_4 hx hb hown hE hW (lk_O_44 hE) d_O_blocked_30 ?_
      refine lv_aload_n hx hb d_O_blocked_33 rfl (lv_at hl 0 rfl) ?_
      refine ygf_0_1 hx hb hown hE hW (lk_O_19 hE) d_O_blocked_34 ?_
      refine lv_aload_n hx hb d_O_blocked_37 rfl (lv_at hl 0 rfl) ?_
      refine ygf_0_8 hx hb hown hE hW (lk_O_68 hE) d_O_blocked_38 ?_
      refine yc_v (yV (As := [.ref (ha G 6), .int (z3.1 0 8)]) (rest := []) E (c_C_find _ _ _ hP) (cw_O_172 hE) (yrv_20 hE hW) (by decide) hW hl.1 rfl rfl rfl d_O_blocked_41) hW (fun z9 H locs hP hW => ?_)
      refine lv_aload_n hx hb d_O_blocked_44 rfl (lv_at hl 0 rfl) ?_
      refine lv_iconst (v := 1) hx hb d_O_blocked_45 (by decide) ?_
      refine ypf_0_11 hx hb hown hE hW zb_1 (lk_O_80 hE) d_O_blocked_46 (fun z10 H locs e_z10 hW => ?_)
      have hP := hP z10 e_z10
      refine lv_aload_n hx hb d_O_blocked_49 rfl (lv_at hl 0 rfl) ?_
      refine lv_iconst (v := 0) hx hb d_O_blocked_50 (by decide) ?_
      refine ypf_0_10 hx hb hown hE hW zb_0 (lk_O_76 hE) d_O_blocked_51 (fun z11 H locs e_z11 hW => ?_)
      have hP := hP z11 e_z11
      exact wJ_O_blocked_54 E _ _ _ _ _ hP hl hW
  · have hP := hP.2 (lgc_lef hc)
    refine lv_iconst (v := -1) hx hb d_O_blocked_20 (by decide) ?_
    exact yr_iX hx hb hr hlk hW hP d_O_blocked_21
theorem d_O_requirePlace_0 : decode cc_O_requirePlace 0 = .ok (.iload_n 1, 1) := by decide +kernel
theorem d_O_requirePlace_1 : decode cc_O_requirePlace 1 = .ok (.ifCond .lt 11, 3) := by decide +kernel
theorem d_O_requirePlace_4 : decode cc_O_requirePlace 4 = .ok (.iload_n 1, 1) := by decide +kernel
theorem d_O_requirePlace_5 : decode cc_O_requirePlace 5 = .ok (.aload_n 0, 1) := by decide +kernel
theorem d_O_requirePlace_6 : decode cc_O_requirePlace 6 = .ok (.getfield 68, 3) := by decide +kernel
theorem d_O_requirePlace_9 : decode cc_O_requirePlace 9 = .ok (.if_icmp .lt 14, 3) := by decide +kernel
theorem d_O_requirePlace_12 : decode cc_O_requirePlace 12 = .ok (.new 87, 3) := by decide +kernel
theorem d_O_requirePlace_15 : decode cc_O_requirePlace 15 = .ok (.dup, 1) := by decide +kernel
theorem d_O_requirePlace_16 : decode cc_O_requirePlace 16 = .ok (.ldc_w 305, 3) := by decide +kernel
theorem d_O_requirePlace_19 : decode cc_O_requirePlace 19 = .ok (.invokespecial 91, 3) := by decide +kernel
theorem d_O_requirePlace_22 : decode cc_O_requirePlace 22 = .ok (.athrow, 1) := by decide +kernel
theorem d_O_requirePlace_23 : decode cc_O_requirePlace 23 = .ok (.return_, 1) := by decide +kernel
def P_O_requirePlace (a1 : Int32) (z0 : St) (Q : St → Prop) (X : Nat → St → Prop) : Prop := ((a1 < 0) → X 0 z0) ∧ ((¬ a1 < 0) → ((a1 < (z0.1 0 8)) → Q z0) ∧ ((¬ a1 < (z0.1 0 8)) → X 0 z0))
set_option maxHeartbeats 4000000 in
set_option maxRecDepth 100000 in
theorem c_O_requirePlace {l : Launch} {G : GG} (a1 : Int32) (z0 : St) (Q : St → Prop) (X : Nat → St → Prop) (hP : P_O_requirePlace a1 z0 Q X) : CtvX l y_O_requirePlace cc_O_requirePlace 2 none rm_O_requirePlace G [.ref (ha G 0), .int a1] z0 Q X := by
  refine CtvX.op (own := R_O) (by decide) rfl (Nat.le_of_ble_eq_true rfl) (fun p e s m args below meth c ls E hl hW => ?_)
  obtain ⟨hx, hb, hml, hown, hr, hlk, hex, hE⟩ := id E
  have hl : lv_has ls 2 [(0, .ref (ha G 0)), (1, .int a1)] := hl
  refine lv_iload_n hx hb d_O_requirePlace_0 rfl (lv_at hl 1 rfl) ?_
  refine lv_if_lt (tgt := 12) hx hb d_O_requirePlace_1 rfl (fun hc => ?_) (fun hc => ?_)
  · have hP := hP.1 hc
    exact yt (k := 0) hx hb hown hlk hex hE hW hl.1 hml (by decide) (by decide) (fun _ h => lt_O_0_305 h) d_O_requirePlace_12 d_O_requirePlace_15 (Or.inr ⟨d_O_requirePlace_16, rfl⟩) d_O_requirePlace_19 d_O_requirePlace_22 hP (fun _ _ h1 h2 => Or.inr ⟨h1, h2⟩)
  · have hP := hP.2 hc
    refine lv_iload_n hx hb d_O_requirePlace_4 rfl (lv_at hl 1 rfl) ?_
    refine lv_aload_n hx hb d_O_requirePlace_5 rfl (lv_at hl 0 rfl) ?_
    refine ygf_0_8 hx hb hown hE hW (lk_O_68 hE) d_O_requirePlace_6 ?_
    refine lv_icmp_lt (tgt := 23) hx hb d_O_requirePlace_9 rfl (fun hc => ?_) (fun hc => ?_)
    · have hP := hP.1 hc
      exact yr_vX hx hb hr hlk hW hP d_O_requirePlace_23
    · have hP := hP.2 hc
      exact yt (k := 0) hx hb hown hlk hex hE hW hl.1 hml (by decide) (by decide) (fun _ h => lt_O_0_305 h) d_O_requirePlace_12 d_O_requirePlace_15 (Or.inr ⟨d_O_requirePlace_16, rfl⟩) d_O_requirePlace_19 d_O_requirePlace_22 hP (fun _ _ h1 h2 => Or.inr ⟨h1, h2⟩)
theorem d_R_tellKind_0 : decode cc_R_tellKind 0 = .ok (.lload_n 3, 1) := by decide +kernel
theorem d_R_tellKind_1 : decode cc_R_tellKind 1 = .ok (.lstore 7, 2) := by decide +kernel
theorem d_R_tellKind_3 : decode cc_R_tellKind 3 = .ok (.aload_n 0, 1) := by decide +kernel
theorem d_R_tellKind_4 : decode cc_R_tellKind 4 = .ok (.getfield 7, 3) := by decide +kernel
theorem d_R_tellKind_7 : decode cc_R_tellKind 7 = .ok (.getfield 39, 3) := by decide +kernel
theorem d_R_tellKind_10 : decode cc_R_tellKind 10 = .ok (.iload_n 1, 1) := by decide +kernel
theorem d_R_tellKind_11 : decode cc_R_tellKind 11 = .ok (.iaload, 1) := by decide +kernel
theorem d_R_tellKind_12 : decode cc_R_tellKind 12 = .ok (.istore 9, 2) := by decide +kernel
theorem d_R_tellKind_14 : decode cc_R_tellKind 14 = .ok (.iload_n 2, 1) := by decide +kernel
theorem d_R_tellKind_15 : decode cc_R_tellKind 15 = .ok (.istore 10, 2) := by decide +kernel
theorem d_R_tellKind_17 : decode cc_R_tellKind 17 = .ok (.iconst 0, 1) := by decide +kernel
theorem d_R_tellKind_18 : decode cc_R_tellKind 18 = .ok (.istore 11, 2) := by decide +kernel
theorem d_R_tellKind_20 : decode cc_R_tellKind 20 = .ok (.iload 11, 2) := by decide +kernel
theorem d_R_tellKind_22 : decode cc_R_tellKind 22 = .ok (.aload_n 0, 1) := by decide +kernel
theorem d_R_tellKind_23 : decode cc_R_tellKind 23 = .ok (.getfield 7, 3) := by decide +kernel
theorem d_R_tellKind_26 : decode cc_R_tellKind 26 = .ok (.getfield 56, 3) := by decide +kernel
theorem d_R_tellKind_29 : decode cc_R_tellKind 29 = .ok (.if_icmp .ge 87, 3) := by decide +kernel
theorem d_R_tellKind_32 : decode cc_R_tellKind 32 = .ok (.iload 10, 2) := by decide +kernel
theorem d_R_tellKind_34 : decode cc_R_tellKind 34 = .ok (.ifCond .le 82, 3) := by decide +kernel
theorem d_R_tellKind_37 : decode cc_R_tellKind 37 = .ok (.aload_n 0, 1) := by decide +kernel
theorem d_R_tellKind_38 : decode cc_R_tellKind 38 = .ok (.getfield 7, 3) := by decide +kernel
theorem d_R_tellKind_41 : decode cc_R_tellKind 41 = .ok (.getfield 59, 3) := by decide +kernel
theorem d_R_tellKind_44 : decode cc_R_tellKind 44 = .ok (.iload 11, 2) := by decide +kernel
theorem d_R_tellKind_46 : decode cc_R_tellKind 46 = .ok (.iaload, 1) := by decide +kernel
theorem d_R_tellKind_47 : decode cc_R_tellKind 47 = .ok (.aload_n 0, 1) := by decide +kernel
theorem d_R_tellKind_48 : decode cc_R_tellKind 48 = .ok (.getfield 7, 3) := by decide +kernel
theorem d_R_tellKind_51 : decode cc_R_tellKind 51 = .ok (.getfield 62, 3) := by decide +kernel
theorem d_R_tellKind_54 : decode cc_R_tellKind 54 = .ok (.iload_n 1, 1) := by decide +kernel
theorem d_R_tellKind_55 : decode cc_R_tellKind 55 = .ok (.iaload, 1) := by decide +kernel
theorem d_R_tellKind_56 : decode cc_R_tellKind 56 = .ok (.if_icmp .ne 54, 3) := by decide +kernel
theorem d_R_tellKind_59 : decode cc_R_tellKind 59 = .ok (.iinc 9 (-1), 3) := by decide +kernel
theorem d_R_tellKind_62 : decode cc_R_tellKind 62 = .ok (.aload_n 0, 1) := by decide +kernel
theorem d_R_tellKind_63 : decode cc_R_tellKind 63 = .ok (.getfield 13, 3) := by decide +kernel
theorem d_R_tellKind_66 : decode cc_R_tellKind 66 = .ok (.iload 9, 2) := by decide +kernel
theorem d_R_tellKind_68 : decode cc_R_tellKind 68 = .ok (.iload 10, 2) := by decide +kernel
theorem d_R_tellKind_70 : decode cc_R_tellKind 70 = .ok (.iconst 1, 1) := by decide +kernel
theorem d_R_tellKind_71 : decode cc_R_tellKind 71 = .ok (.isub, 1) := by decide +kernel
theorem d_R_tellKind_72 : decode cc_R_tellKind 72 = .ok (.invokevirtual 42, 3) := by decide +kernel
theorem d_R_tellKind_75 : decode cc_R_tellKind 75 = .ok (.lstore 12, 2) := by decide +kernel
theorem d_R_tellKind_77 : decode cc_R_tellKind 77 = .ok (.lload 7, 2) := by decide +kernel
theorem d_R_tellKind_79 : decode cc_R_tellKind 79 = .ok (.lload 12, 2) := by decide +kernel
theorem d_R_tellKind_81 : decode cc_R_tellKind 81 = .ok (.lcmp, 1) := by decide +kernel
theorem d_R_tellKind_82 : decode cc_R_tellKind 82 = .ok (.ifCond .ge 21, 3) := by decide +kernel
theorem d_R_tellKind_85 : decode cc_R_tellKind 85 = .ok (.aload 5, 2) := by decide +kernel
theorem d_R_tellKind_87 : decode cc_R_tellKind 87 = .ok (.iload 6, 2) := by decide +kernel
theorem d_R_tellKind_89 : decode cc_R_tellKind 89 = .ok (.iload_n 2, 1) := by decide +kernel
theorem d_R_tellKind_90 : decode cc_R_tellKind 90 = .ok (.iadd, 1) := by decide +kernel
theorem d_R_tellKind_91 : decode cc_R_tellKind 91 = .ok (.iload 10, 2) := by decide +kernel
theorem d_R_tellKind_93 : decode cc_R_tellKind 93 = .ok (.isub, 1) := by decide +kernel
theorem d_R_tellKind_94 : decode cc_R_tellKind 94 = .ok (.iload 11, 2) := by decide +kernel
theorem d_R_tellKind_96 : decode cc_R_tellKind 96 = .ok (.iastore, 1) := by decide +kernel
theorem d_R_tellKind_97 : decode cc_R_tellKind 97 = .ok (.iinc 10 (-1), 3) := by decide +kernel
theorem d_R_tellKind_100 : decode cc_R_tellKind 100 = .ok (.goto 10, 3) := by decide +kernel
theorem d_R_tellKind_103 : decode cc_R_tellKind 103 = .ok (.lload 7, 2) := by decide +kernel
theorem d_R_tellKind_105 : decode cc_R_tellKind 105 = .ok (.lload 12, 2) := by decide +kernel
theorem d_R_tellKind_107 : decode cc_R_tellKind 107 = .ok (.lsub, 1) := by decide +kernel
theorem d_R_tellKind_108 : decode cc_R_tellKind 108 = .ok (.lstore 7, 2) := by decide +kernel
theorem d_R_tellKind_110 : decode cc_R_tellKind 110 = .ok (.iinc 11 1, 3) := by decide +kernel
theorem d_R_tellKind_113 : decode cc_R_tellKind 113 = .ok (.goto (-93), 3) := by decide +kernel
theorem d_R_tellKind_116 : decode cc_R_tellKind 116 = .ok (.return_, 1) := by decide +kernel
def L_R_tellKind_20 (Q : St → Prop) : Nat → Int32 → Int32 → Int32 → Int64 → Int32 → Int32 → Int32 → St → Prop
  | 0, _, _, _, _, _, _, _, _ => False
  | n + 1, v1, v2, v6, v7, v9, v10, v11, z0 => (((z0.1 1 4) ≤ v11) → Q z0) ∧ ((¬ (z0.1 1 4) ≤ v11) → ((v10 ≤ 0) → Q z0) ∧ ((¬ v10 ≤ 0) → vp_in v11 40 ∧ vp_in v1 16 ∧ ((¬ (z0.1 3 v11.toNatClampNeg) = (z0.1 4 v1.toNatClampNeg)) → ∀ x2 : Int32, x2 = v11 + 1 → L_R_tellKind_20 Q n v1 v2 v6 v7 v9 v10 x2 z0) ∧ (((z0.1 3 v11.toNatClampNeg) = (z0.1 4 v1.toNatClampNeg)) → ∀ x3 : Int32, x3 = v9 - 1 → P_T_choose x3 (v10 - (1 : Int32)) z0 (fun (x5 : Int64) (z4 : St) => ((x5 ≤ v7) → ∀ x6 : Int64, x6 = v7 - x5 → ∀ x7 : Int32, x7 = v11 + 1 → L_R_tellKind_20 Q n v1 v2 v6 x6 x3 v10 x7 z4) ∧ ((¬ x5 ≤ v7) → vp_in ((v6 + v2) - v10) 8 ∧ ∀ z8 : St, z8 = wI z4 30 ((v6 + v2) - v10).toNatClampNeg v11 → ∀ x9 : Int32, x9 = v10 - 1 → ∀ x10 : Int32, x10 = v11 + 1 → L_R_tellKind_20 Q n v1 v2 v6 v7 x3 x9 x10 z8)))))
def P_R_tellKind (a1 : Int32) (a2 : Int32) (a3 : Int64) (a6 : Int32) (z0 : St) (Q : St → Prop) : Prop := vp_in a1 16 ∧ ∀ x1 : Int32, x1 = (z0.1 5 a1.toNatClampNeg) → ∃ k20 : Nat, L_R_tellKind_20 Q k20 a1 a2 a6 a3 x1 a2 (0 : Int32) z0
set_option maxHeartbeats 4000000 in
set_option maxRecDepth 100000 in
theorem wL_R_tellKind_20 {Q : St → Prop} (E : En p l s m meth c args cc_R_tellKind 14 R_R none G) :
    ∀ (n : Nat) (v1 : Int32) (v2 : Int32) (v6 : Int32) (v7 : Int64) (v9 : Int32) (v10 : Int32) (v11 : Int32) (z0 : St) (ls : Array Slot) (H : Heap) (locs : List Loc), L_R_tellKind_20 Q n v1 v2 v6 v7 v9 v10 v11 z0 → lv_has ls 14 [(0, .ref (ha G 19)), (1, .int v1), (2, .int v2), (5, .ref (ha G 30)), (6, .int v6), (7, .long v7), (9, .int v9), (10, .int v10), (11, .int v11)] → Wd G z0 s.heap H locs → W p l e rm_R_tellKind s m args below meth c H locs 0 0 (MQ below (QvR Q G) args s 0 0 (fr G)) (F0 m 20 ls []) := by
  obtain ⟨hx, hb, hml, hown, hr, hlk, hex, hE⟩ := id E
  intro n
  induction n with
  | zero => exact fun _ _ _ _ _ _ _ _ _ _ _ hP _ _ => hP.elim
  | succ n ih =>
    intro v1 v2 v6 v7 v9 v10 v11 z0 ls H locs hP hl hW
    refine lv_iload hx hb d_R_tellKind_20 (lv_at hl 8 rfl) ?_
    refine lv_aload_n hx hb d_R_tellKind_22 rfl (lv_at hl 0 rfl) ?_
    refine ygf_19_0 hx hb hown hE hW (lk_R_7 hE) d_R_tellKind_23 ?_
    refine ygn_1_4 hx hb hown hE hW (lk_R_56 hE) d_R_tellKind_26 ?_
    refine lv_icmp_ge (tgt := 116) hx hb d_R_tellKind_29 rfl (fun hc => ?_) (fun hc => ?_)
    · have hP := hP.1 hc
      exact yr_v hx hb hr hlk hW hP d_R_tellKind_116
    · have hP := hP.2 hc
      refine lv_iload hx hb d_R_tellKind_32 (lv_at hl 7 rfl) ?_
      refine lv_if_le (tgt := 116) hx hb d_R_tellKind_34 rfl (fun hc => ?_) (fun hc => ?_)
      · have hP := hP.1 hc
        exact yr_v hx hb hr hlk hW hP d_R_tellKind_116
      · have hP := hP.2 hc
        refine lv_aload_n hx hb d_R_tellKind_37 rfl (lv_at hl 0 rfl) ?_
        refine ygf_19_0 hx hb hown hE hW (lk_R_7 hE) d_R_tellKind_38 ?_
        refine ygn_1_1 hx hb hown hE hW (lk_R_59 hE) d_R_tellKind_41 ?_
        refine lv_iload hx hb d_R_tellKind_44 (lv_at hl 8 rfl) ?_
        refine ya_3 hx hb hE hW hP.1 d_R_tellKind_46 ?_
        have hP := hP.2
        refine lv_aload_n hx hb d_R_tellKind_47 rfl (lv_at hl 0 rfl) ?_
        refine ygf_19_0 hx hb hown hE hW (lk_R_7 hE) d_R_tellKind_48 ?_
        refine ygn_1_2 hx hb hown hE hW (lk_R_62 hE) d_R_tellKind_51 ?_
        refine lv_iload_n hx hb d_R_tellKind_54 rfl (lv_at hl 1 rfl) ?_
        refine ya_4 hx hb hE hW hP.1 d_R_tellKind_55 ?_
        have hP := hP.2
        refine lv_icmp_ne (tgt := 110) hx hb d_R_tellKind_56 rfl (fun hc => ?_) (fun hc => ?_)
        · have hP := hP.1 hc
          obtain ⟨x2, e_x2⟩ : ∃ z : Int32, z = v11 + 1 := ⟨_, rfl⟩
          have hP := hP x2 e_x2
          refine lv_iinc (k := 8) (lv' := [(11, .int x2), (0, .ref (ha G 19)), (1, .int v1), (2, .int v2), (5, .ref (ha G 30)), (6, .int v6), (7, .long v7), (9, .int v9), (10, .int v10)]) hx hb d_R_tellKind_110 hl rfl (ii_p1 e_x2) (by decide) rfl (fun ls hl => ?_)
          refine lv_goto (tgt := 20) hx hb d_R_tellKind_113 rfl ?_
          exact ih _ _ _ _ _ _ _ _ _ _ _ hP (lv_sub hl [1, 2, 3, 4, 5, 6, 7, 8, 0] rfl) hW
        · have hP := hP.2 hc
          obtain ⟨x3, e_x3⟩ : ∃ z : Int32, z = v9 - 1 := ⟨_, rfl⟩
          have hP := hP x3 e_x3
          refine lv_iinc (k := 6) (lv' := [(9, .int x3), (0, .ref (ha G 19)), (1, .int v1), (2, .int v2), (5, .ref (ha G 30)), (6, .int v6), (7, .long v7), (10, .int v10), (11, .int v11)]) hx hb d_R_tellKind_59 hl rfl (ii_m1 e_x3) (by decide) rfl (fun ls hl => ?_)
          refine lv_aload_n hx hb d_R_tellKind_62 rfl (lv_at hl 1 rfl) ?_
          refine ygf_19_1 hx hb hown hE hW (lk_R_13 hE) d_R_tellKind_63 ?_
          refine lv_iload hx hb d_R_tellKind_66 (lv_at hl 0 rfl) ?_
          refine lv_iload hx hb d_R_tellKind_68 (lv_at hl 7 rfl) ?_
          refine lv_iconst (v := 1) hx hb d_R_tellKind_70 (by decide) ?_
          refine lv_isub hx hb d_R_tellKind_71 ?_
          refine yc_l (yV (As := [.int x3, .int (v10 - (1 : Int32))]) (rest := []) E (c_T_choose _ _ _ _ hP) (cw_R_42 hE) (yrv_9 hE hW) (by decide) hW hl.1 rfl rfl rfl d_R_tellKind_72) hW (fun x5 z4 H locs hP hW => ?_)
          refine lv_lstore (lv' := [(12, .long x5), (9, .int x3), (0, .ref (ha G 19)), (1, .int v1), (2, .int v2), (5, .ref (ha G 30)), (6, .int v6), (7, .long v7), (10, .int v10), (11, .int v11)]) hx hb d_R_tellKind_75 hl (by decide) rfl (fun ls hl => ?_)
          refine lv_lload hx hb d_R_tellKind_77 (lv_at hl 7 rfl) ?_
          refine lv_lload hx hb d_R_tellKind_79 (lv_at hl 0 rfl) ?_
          refine W.lcmp hx hb d_R_tellKind_81 ?_
          refine lv_if_ge (tgt := 103) hx hb d_R_tellKind_82 rfl (fun hc => ?_) (fun hc => ?_)
          · have hP := hP.1 (lgc_get hc)
            refine lv_lload hx hb d_R_tellKind_103 (lv_at hl 7 rfl) ?_
            refine lv_lload hx hb d_R_tellKind_105 (lv_at hl 0 rfl) ?_
            refine lv_lsub hx hb d_R_tellKind_107 ?_
            refine lv_topl (fun x6 e_x6 => ?_)
            have hP := hP x6 e_x6
            refine lv_lstore (lv' := [(7, .long x6), (12, .long x5), (9, .int x3), (0, .ref (ha G 19)), (1, .int v1), (2, .int v2), (5, .ref (ha G 30)), (6, .int v6), (10, .int v10), (11, .int v11)]) hx hb d_R_tellKind_108 hl (by decide) rfl (fun ls hl => ?_)
            obtain ⟨x7, e_x7⟩ : ∃ z : Int32, z = v11 + 1 := ⟨_, rfl⟩
            have hP := hP x7 e_x7
            refine lv_iinc (k := 9) (lv' := [(11, .int x7), (7, .long x6), (12, .long x5), (9, .int x3), (0, .ref (ha G 19)), (1, .int v1), (2, .int v2), (5, .ref (ha G 30)), (6, .int v6), (10, .int v10)]) hx hb d_R_tellKind_110 hl rfl (ii_p1 e_x7) (by decide) rfl (fun ls hl => ?_)
            refine lv_goto (tgt := 20) hx hb d_R_tellKind_113 rfl ?_
            exact ih _ _ _ _ _ _ _ _ _ _ _ hP (lv_sub hl [4, 5, 6, 7, 8, 1, 3, 9, 0] rfl) hW
          · have hP := hP.2 (lgc_gef hc)
            refine lv_aload hx hb d_R_tellKind_85 (lv_at hl 5 rfl) ?_
            refine lv_iload hx hb d_R_tellKind_87 (lv_at hl 6 rfl) ?_
            refine lv_iload_n hx hb d_R_tellKind_89 rfl (lv_at hl 4 rfl) ?_
            refine lv_iadd hx hb d_R_tellKind_90 ?_
            refine lv_iload hx hb d_R_tellKind_91 (lv_at hl 8 rfl) ?_
            refine lv_isub hx hb d_R_tellKind_93 ?_
            refine lv_iload hx hb d_R_tellKind_94 (lv_at hl 9 rfl) ?_
            refine ys_30 hx hb hE hW hP.1 d_R_tellKind_96 (fun z8 H locs e_z8 hW => ?_)
            have hP := hP.2
            have hP := hP z8 e_z8
            obtain ⟨x9, e_x9⟩ : ∃ z : Int32, z = v10 - 1 := ⟨_, rfl⟩
            have hP := hP x9 e_x9
            refine lv_iinc (k := 8) (lv' := [(10, .int x9), (12, .long x5), (9, .int x3), (0, .ref (ha G 19)), (1, .int v1), (2, .int v2), (5, .ref (ha G 30)), (6, .int v6), (7, .long v7), (11, .int v11)]) hx hb d_R_tellKind_97 hl rfl (ii_m1 e_x9) (by decide) rfl (fun ls hl => ?_)
            refine lv_goto (tgt := 110) hx hb d_R_tellKind_100 rfl ?_
            obtain ⟨x10, e_x10⟩ : ∃ z : Int32, z = v11 + 1 := ⟨_, rfl⟩
            have hP := hP x10 e_x10
            refine lv_iinc (k := 9) (lv' := [(11, .int x10), (10, .int x9), (12, .long x5), (9, .int x3), (0, .ref (ha G 19)), (1, .int v1), (2, .int v2), (5, .ref (ha G 30)), (6, .int v6), (7, .long v7)]) hx hb d_R_tellKind_110 hl rfl (ii_p1 e_x10) (by decide) rfl (fun ls hl => ?_)
            refine lv_goto (tgt := 20) hx hb d_R_tellKind_113 rfl ?_
            exact ih _ _ _ _ _ _ _ _ _ _ _ hP (lv_sub hl [4, 5, 6, 7, 8, 9, 3, 1, 0] rfl) hW
set_option maxHeartbeats 4000000 in
set_option maxRecDepth 100000 in
theorem c_R_tellKind {l : Launch} {G : GG} (a1 : Int32) (a2 : Int32) (a3 : Int64) (a6 : Int32) (z0 : St) (Q : St → Prop) (hP : P_R_tellKind a1 a2 a3 a6 z0 Q) : Ctv l y_R_tellKind cc_R_tellKind 14 none rm_R_tellKind G [.ref (ha G 19), .int a1, .int a2, .long a3, .ref (ha G 30), .int a6] z0 Q := by
  refine Ctv.op (own := R_R) (by decide) rfl (Nat.le_of_ble_eq_true rfl) (fun p e s m args below meth c ls E hl hW => ?_)
  obtain ⟨hx, hb, hml, hown, hr, hlk, hex, hE⟩ := id E
  have hl : lv_has ls 14 [(0, .ref (ha G 19)), (1, .int a1), (2, .int a2), (3, .long a3), (5, .ref (ha G 30)), (6, .int a6)] := hl
  refine lv_lload_n hx hb d_R_tellKind_0 rfl (lv_at hl 3 rfl) ?_
  refine lv_lstore (lv' := [(7, .long a3), (0, .ref (ha G 19)), (1, .int a1), (2, .int a2), (3, .long a3), (5, .ref (ha G 30)), (6, .int a6)]) hx hb d_R_tellKind_1 hl (by decide) rfl (fun ls hl => ?_)
  refine lv_aload_n hx hb d_R_tellKind_3 rfl (lv_at hl 1 rfl) ?_
  refine ygf_19_0 hx hb hown hE hW (lk_R_7 hE) d_R_tellKind_4 ?_
  refine ygn_1_3 hx hb hown hE hW (lk_R_39 hE) d_R_tellKind_7 ?_
  refine lv_iload_n hx hb d_R_tellKind_10 rfl (lv_at hl 2 rfl) ?_
  refine ya_5 hx hb hE hW hP.1 d_R_tellKind_11 ?_
  have hP := hP.2
  refine lv_topi (fun x1 e_x1 => ?_)
  have hP := hP x1 e_x1
  refine lv_istore (lv' := [(9, .int x1), (7, .long a3), (0, .ref (ha G 19)), (1, .int a1), (2, .int a2), (3, .long a3), (5, .ref (ha G 30)), (6, .int a6)]) hx hb d_R_tellKind_12 hl (by decide) rfl (fun ls hl => ?_)
  refine lv_iload_n hx hb d_R_tellKind_14 rfl (lv_at hl 4 rfl) ?_
  refine lv_istore (lv' := [(10, .int a2), (9, .int x1), (7, .long a3), (0, .ref (ha G 19)), (1, .int a1), (2, .int a2), (3, .long a3), (5, .ref (ha G 30)), (6, .int a6)]) hx hb d_R_tellKind_15 hl (by decide) rfl (fun ls hl => ?_)
  refine lv_iconst (v := 0) hx hb d_R_tellKind_17 (by decide) ?_
  refine lv_istore (lv' := [(11, .int (0 : Int32)), (10, .int a2), (9, .int x1), (7, .long a3), (0, .ref (ha G 19)), (1, .int a1), (2, .int a2), (3, .long a3), (5, .ref (ha G 30)), (6, .int a6)]) hx hb d_R_tellKind_18 hl (by decide) rfl (fun ls hl => ?_)
  obtain ⟨n2, hP⟩ := hP
  refine wL_R_tellKind_20 E n2 _ _ _ _ _ _ _ _ _ _ _ hP (lv_sub hl [4, 5, 6, 8, 9, 3, 2, 1, 0] rfl) hW
theorem d_R_tell_0 : decode cc_R_tell 0 = .ok (.lload_n 1, 1) := by decide +kernel
theorem d_R_tell_1 : decode cc_R_tell 1 = .ok (.lstore 4, 2) := by decide +kernel
theorem d_R_tell_3 : decode cc_R_tell 3 = .ok (.iconst 0, 1) := by decide +kernel
theorem d_R_tell_4 : decode cc_R_tell 4 = .ok (.istore 6, 2) := by decide +kernel
theorem d_R_tell_6 : decode cc_R_tell 6 = .ok (.iconst 0, 1) := by decide +kernel
theorem d_R_tell_7 : decode cc_R_tell 7 = .ok (.istore 7, 2) := by decide +kernel
theorem d_R_tell_9 : decode cc_R_tell 9 = .ok (.iconst 0, 1) := by decide +kernel
theorem d_R_tell_10 : decode cc_R_tell 10 = .ok (.istore 8, 2) := by decide +kernel
theorem d_R_tell_12 : decode cc_R_tell 12 = .ok (.iload 8, 2) := by decide +kernel
theorem d_R_tell_14 : decode cc_R_tell 14 = .ok (.aload_n 0, 1) := by decide +kernel
theorem d_R_tell_15 : decode cc_R_tell 15 = .ok (.getfield 7, 3) := by decide +kernel
theorem d_R_tell_18 : decode cc_R_tell 18 = .ok (.getfield 17, 3) := by decide +kernel
theorem d_R_tell_21 : decode cc_R_tell 21 = .ok (.if_icmp .ge 166, 3) := by decide +kernel
theorem d_R_tell_24 : decode cc_R_tell 24 = .ok (.aload_n 0, 1) := by decide +kernel
theorem d_R_tell_25 : decode cc_R_tell 25 = .ok (.getfield 13, 3) := by decide +kernel
theorem d_R_tell_28 : decode cc_R_tell 28 = .ok (.getfield 23, 3) := by decide +kernel
theorem d_R_tell_31 : decode cc_R_tell 31 = .ok (.iload 6, 2) := by decide +kernel
theorem d_R_tell_33 : decode cc_R_tell 33 = .ok (.iaload, 1) := by decide +kernel
theorem d_R_tell_34 : decode cc_R_tell 34 = .ok (.istore 9, 2) := by decide +kernel
theorem d_R_tell_36 : decode cc_R_tell 36 = .ok (.iconst 0, 1) := by decide +kernel
theorem d_R_tell_37 : decode cc_R_tell 37 = .ok (.istore 10, 2) := by decide +kernel
theorem d_R_tell_39 : decode cc_R_tell 39 = .ok (.aload_n 0, 1) := by decide +kernel
theorem d_R_tell_40 : decode cc_R_tell 40 = .ok (.getfield 13, 3) := by decide +kernel
theorem d_R_tell_43 : decode cc_R_tell 43 = .ok (.getfield 29, 3) := by decide +kernel
theorem d_R_tell_46 : decode cc_R_tell 46 = .ok (.iload 9, 2) := by decide +kernel
theorem d_R_tell_48 : decode cc_R_tell 48 = .ok (.laload, 1) := by decide +kernel
theorem d_R_tell_49 : decode cc_R_tell 49 = .ok (.lstore 11, 2) := by decide +kernel
theorem d_R_tell_51 : decode cc_R_tell 51 = .ok (.iload 10, 2) := by decide +kernel
theorem d_R_tell_53 : decode cc_R_tell 53 = .ok (.aload_n 0, 1) := by decide +kernel
theorem d_R_tell_54 : decode cc_R_tell 54 = .ok (.getfield 13, 3) := by decide +kernel
theorem d_R_tell_57 : decode cc_R_tell 57 = .ok (.getfield 33, 3) := by decide +kernel
theorem d_R_tell_60 : decode cc_R_tell 60 = .ok (.iload 6, 2) := by decide +kernel
theorem d_R_tell_62 : decode cc_R_tell 62 = .ok (.iaload, 1) := by decide +kernel
theorem d_R_tell_63 : decode cc_R_tell 63 = .ok (.if_icmp .ge 68, 3) := by decide +kernel
theorem d_R_tell_66 : decode cc_R_tell 66 = .ok (.lload 4, 2) := by decide +kernel
theorem d_R_tell_68 : decode cc_R_tell 68 = .ok (.lload 11, 2) := by decide +kernel
theorem d_R_tell_70 : decode cc_R_tell 70 = .ok (.lcmp, 1) := by decide +kernel
theorem d_R_tell_71 : decode cc_R_tell 71 = .ok (.ifCond .lt 60, 3) := by decide +kernel
theorem d_R_tell_74 : decode cc_R_tell 74 = .ok (.lload 4, 2) := by decide +kernel
theorem d_R_tell_76 : decode cc_R_tell 76 = .ok (.lload 11, 2) := by decide +kernel
theorem d_R_tell_78 : decode cc_R_tell 78 = .ok (.lsub, 1) := by decide +kernel
theorem d_R_tell_79 : decode cc_R_tell 79 = .ok (.lstore 4, 2) := by decide +kernel
theorem d_R_tell_81 : decode cc_R_tell 81 = .ok (.iinc 10 1, 3) := by decide +kernel
theorem d_R_tell_84 : decode cc_R_tell 84 = .ok (.aload_n 0, 1) := by decide +kernel
theorem d_R_tell_85 : decode cc_R_tell 85 = .ok (.getfield 13, 3) := by decide +kernel
theorem d_R_tell_88 : decode cc_R_tell 88 = .ok (.getfield 36, 3) := by decide +kernel
theorem d_R_tell_91 : decode cc_R_tell 91 = .ok (.iload 9, 2) := by decide +kernel
theorem d_R_tell_93 : decode cc_R_tell 93 = .ok (.iaload, 1) := by decide +kernel
theorem d_R_tell_94 : decode cc_R_tell 94 = .ok (.istore 9, 2) := by decide +kernel
theorem d_R_tell_96 : decode cc_R_tell 96 = .ok (.aload_n 0, 1) := by decide +kernel
theorem d_R_tell_97 : decode cc_R_tell 97 = .ok (.getfield 13, 3) := by decide +kernel
theorem d_R_tell_100 : decode cc_R_tell 100 = .ok (.aload_n 0, 1) := by decide +kernel
theorem d_R_tell_101 : decode cc_R_tell 101 = .ok (.getfield 7, 3) := by decide +kernel
theorem d_R_tell_104 : decode cc_R_tell 104 = .ok (.getfield 39, 3) := by decide +kernel
theorem d_R_tell_107 : decode cc_R_tell 107 = .ok (.iload 8, 2) := by decide +kernel
theorem d_R_tell_109 : decode cc_R_tell 109 = .ok (.iaload, 1) := by decide +kernel
theorem d_R_tell_110 : decode cc_R_tell 110 = .ok (.iload 10, 2) := by decide +kernel
theorem d_R_tell_112 : decode cc_R_tell 112 = .ok (.invokevirtual 42, 3) := by decide +kernel
theorem d_R_tell_115 : decode cc_R_tell 115 = .ok (.aload_n 0, 1) := by decide +kernel
theorem d_R_tell_116 : decode cc_R_tell 116 = .ok (.getfield 13, 3) := by decide +kernel
theorem d_R_tell_119 : decode cc_R_tell 119 = .ok (.getfield 29, 3) := by decide +kernel
theorem d_R_tell_122 : decode cc_R_tell 122 = .ok (.iload 9, 2) := by decide +kernel
theorem d_R_tell_124 : decode cc_R_tell 124 = .ok (.laload, 1) := by decide +kernel
theorem d_R_tell_125 : decode cc_R_tell 125 = .ok (.lmul, 1) := by decide +kernel
theorem d_R_tell_126 : decode cc_R_tell 126 = .ok (.lstore 11, 2) := by decide +kernel
theorem d_R_tell_128 : decode cc_R_tell 128 = .ok (.goto (-77), 3) := by decide +kernel
theorem d_R_tell_131 : decode cc_R_tell 131 = .ok (.lconst 1, 1) := by decide +kernel
theorem d_R_tell_132 : decode cc_R_tell 132 = .ok (.aload_n 0, 1) := by decide +kernel
theorem d_R_tell_133 : decode cc_R_tell 133 = .ok (.getfield 13, 3) := by decide +kernel
theorem d_R_tell_136 : decode cc_R_tell 136 = .ok (.getfield 29, 3) := by decide +kernel
theorem d_R_tell_139 : decode cc_R_tell 139 = .ok (.iload 9, 2) := by decide +kernel
theorem d_R_tell_141 : decode cc_R_tell 141 = .ok (.laload, 1) := by decide +kernel
theorem d_R_tell_142 : decode cc_R_tell 142 = .ok (.invokestatic 46, 3) := by decide +kernel
theorem d_R_tell_145 : decode cc_R_tell 145 = .ok (.lstore 13, 2) := by decide +kernel
theorem d_R_tell_147 : decode cc_R_tell 147 = .ok (.aload_n 0, 1) := by decide +kernel
theorem d_R_tell_148 : decode cc_R_tell 148 = .ok (.iload 8, 2) := by decide +kernel
theorem d_R_tell_150 : decode cc_R_tell 150 = .ok (.iload 10, 2) := by decide +kernel
theorem d_R_tell_152 : decode cc_R_tell 152 = .ok (.lload 4, 2) := by decide +kernel
theorem d_R_tell_154 : decode cc_R_tell 154 = .ok (.lload 13, 2) := by decide +kernel
theorem d_R_tell_156 : decode cc_R_tell 156 = .ok (.ldiv, 1) := by decide +kernel
theorem d_R_tell_157 : decode cc_R_tell 157 = .ok (.aload_n 3, 1) := by decide +kernel
theorem d_R_tell_158 : decode cc_R_tell 158 = .ok (.iload 7, 2) := by decide +kernel
theorem d_R_tell_160 : decode cc_R_tell 160 = .ok (.invokevirtual 52, 3) := by decide +kernel
theorem d_R_tell_163 : decode cc_R_tell 163 = .ok (.lload 4, 2) := by decide +kernel
theorem d_R_tell_165 : decode cc_R_tell 165 = .ok (.lload 13, 2) := by decide +kernel
theorem d_R_tell_167 : decode cc_R_tell 167 = .ok (.lrem, 1) := by decide +kernel
theorem d_R_tell_168 : decode cc_R_tell 168 = .ok (.lstore 4, 2) := by decide +kernel
theorem d_R_tell_170 : decode cc_R_tell 170 = .ok (.iload 7, 2) := by decide +kernel
theorem d_R_tell_172 : decode cc_R_tell 172 = .ok (.iload 10, 2) := by decide +kernel
theorem d_R_tell_174 : decode cc_R_tell 174 = .ok (.iadd, 1) := by decide +kernel
theorem d_R_tell_175 : decode cc_R_tell 175 = .ok (.istore 7, 2) := by decide +kernel
theorem d_R_tell_177 : decode cc_R_tell 177 = .ok (.iload 9, 2) := by decide +kernel
theorem d_R_tell_179 : decode cc_R_tell 179 = .ok (.istore 6, 2) := by decide +kernel
theorem d_R_tell_181 : decode cc_R_tell 181 = .ok (.iinc 8 1, 3) := by decide +kernel
theorem d_R_tell_184 : decode cc_R_tell 184 = .ok (.goto (-172), 3) := by decide +kernel
theorem d_R_tell_187 : decode cc_R_tell 187 = .ok (.return_, 1) := by decide +kernel
def L_R_tell_51 (K131 : Int64 → Int32 → Int32 → Int32 → Int32 → St → Prop) (Q : St → Prop) : Nat → Int64 → Int32 → Int32 → Int32 → Int32 → Int32 → Int64 → St → Prop
  | 0, _, _, _, _, _, _, _, _ => False
  | n + 1, v4, v6, v7, v8, v9, v10, v11, z0 => vp_in v6 1001 ∧ (((z0.1 11 v6.toNatClampNeg) ≤ v10) → K131 v4 v7 v8 v9 v10 z0) ∧ ((¬ (z0.1 11 v6.toNatClampNeg) ≤ v10) → ((v4 < v11) → K131 v4 v7 v8 v9 v10 z0) ∧ ((¬ v4 < v11) → ∀ x3 : Int64, x3 = v4 - v11 → ∀ x4 : Int32, x4 = v10 + 1 → vp_in v9 1001 ∧ ∀ x5 : Int32, x5 = (z0.1 13 v9.toNatClampNeg) → vp_in v8 16 ∧ P_T_choose (z0.1 5 v8.toNatClampNeg) x4 z0 (fun (x7 : Int64) (z6 : St) => vp_in x5 1001 ∧ ∀ x8 : Int64, x8 = x7 * (z6.2 14 x5.toNatClampNeg) → L_R_tell_51 K131 Q n x3 v6 v7 v8 x5 x4 x8 z6)))
def J_R_tell_131 (K12 : Int64 → Int32 → Int32 → Int32 → St → Prop) (Q : St → Prop) (v4 : Int64) (v7 : Int32) (v8 : Int32) (v9 : Int32) (v10 : Int32) (z0 : St) : Prop := vp_in v9 1001 ∧ ∀ x15 : Int64, x15 = (mmaxL (1 : Int64) (z0.2 14 v9.toNatClampNeg)) → ¬ x15 = 0 ∧ P_R_tellKind v8 v10 (v4 / x15) v7 z0 (fun (z16 : St) => ¬ x15 = 0 ∧ ∀ x17 : Int64, x17 = v4 - v4 / x15 * x15 → ∀ x18 : Int32, x18 = v7 + v10 → ∀ x19 : Int32, x19 = v8 + 1 → K12 x17 v9 x18 x19 z16)
def L_R_tell_12 (Q : St → Prop) : Nat → Int64 → Int32 → Int32 → Int32 → St → Prop
  | 0, _, _, _, _, _ => False
  | n + 1, v4, v6, v7, v8, z0 => (((z0.1 1 5) ≤ v8) → Q z0) ∧ ((¬ (z0.1 1 5) ≤ v8) → vp_in v6 1001 ∧ ∀ x1 : Int32, x1 = (z0.1 12 v6.toNatClampNeg) → vp_in x1 1001 ∧ ∀ x2 : Int64, x2 = (z0.2 14 x1.toNatClampNeg) → ∃ k51 : Nat, L_R_tell_51 (fun (x9 : Int64) (x10 : Int32) (x11 : Int32) (x12 : Int32) (x13 : Int32) (z14 : St) => J_R_tell_131 (L_R_tell_12 Q n) Q x9 x10 x11 x12 x13 z14) Q k51 v4 v6 v7 v8 x1 (0 : Int32) x2 z0)
def P_R_tell (a1 : Int64) (z0 : St) (Q : St → Prop) : Prop := ∃ k12 : Nat, L_R_tell_12 Q k12 a1 (0 : Int32) (0 : Int32) (0 : Int32) z0
set_option maxHeartbeats 4000000 in
set_option maxRecDepth 100000 in
theorem wL_R_tell_51 {K131 : Int64 → Int32 → Int32 → Int32 → Int32 → St → Prop} {Q : St → Prop} (E : En p l s m meth c args cc_R_tell 15 R_R none G)
    (hK131 : ∀ (v4 : Int64) (v7 : Int32) (v8 : Int32) (v9 : Int32) (v10 : Int32) (z0 : St) (ls : Array Slot) (H : Heap) (locs : List Loc), K131 v4 v7 v8 v9 v10 z0 → lv_has ls 15 [(0, .ref (ha G 19)), (3, .ref (ha G 30)), (4, .long v4), (7, .int v7), (8, .int v8), (9, .int v9), (10, .int v10)] → Wd G z0 s.heap H locs → W p l e rm_R_tell s m args below meth c H locs 0 0 (MQ below (QvR Q G) args s 0 0 (fr G)) (F0 m 131 ls [])) :
    ∀ (n : Nat) (v4 : Int64) (v6 : Int32) (v7 : Int32) (v8 : Int32) (v9 : Int32) (v10 : Int32) (v11 : Int64) (z0 : St) (ls : Array Slot) (H : Heap) (locs : List Loc), L_R_tell_51 K131 Q n v4 v6 v7 v8 v9 v10 v11 z0 → lv_has ls 15 [(0, .ref (ha G 19)), (3, .ref (ha G 30)), (4, .long v4), (6, .int v6), (7, .int v7), (8, .int v8), (9, .int v9), (10, .int v10), (11, .long v11)] → Wd G z0 s.heap H locs → W p l e rm_R_tell s m args below meth c H locs 0 0 (MQ below (QvR Q G) args s 0 0 (fr G)) (F0 m 51 ls []) := by
  obtain ⟨hx, hb, hml, hown, hr, hlk, hex, hE⟩ := id E
  intro n
  induction n with
  | zero => exact fun _ _ _ _ _ _ _ _ _ _ _ hP _ _ => hP.elim
  | succ n ih =>
    intro v4 v6 v7 v8 v9 v10 v11 z0 ls H locs hP hl hW
    refine lv_iload hx hb d_R_tell_51 (lv_at hl 7 rfl) ?_
    refine lv_aload_n hx hb d_R_tell_53 rfl (lv_at hl 0 rfl) ?_
    refine ygf_19_1 hx hb hown hE hW (lk_R_13 hE) d_R_tell_54 ?_
    refine ygn_9_2 hx hb hown hE hW (lk_R_33 hE) d_R_tell_57 ?_
    refine lv_iload hx hb d_R_tell_60 (lv_at hl 3 rfl) ?_
    refine ya_11 hx hb hE hW hP.1 d_R_tell_62 ?_
    have hP := hP.2
    refine lv_icmp_ge (tgt := 131) hx hb d_R_tell_63 rfl (fun hc => ?_) (fun hc => ?_)
    · have hP := hP.1 hc
      exact hK131 _ _ _ _ _ _ _ _ _ hP (lv_sub hl [0, 1, 2, 4, 5, 6, 7] rfl) hW
    · have hP := hP.2 hc
      refine lv_lload hx hb d_R_tell_66 (lv_at hl 2 rfl) ?_
      refine lv_lload hx hb d_R_tell_68 (lv_at hl 8 rfl) ?_
      refine W.lcmp hx hb d_R_tell_70 ?_
      refine lv_if_lt (tgt := 131) hx hb d_R_tell_71 rfl (fun hc => ?_) (fun hc => ?_)
      · have hP := hP.1 (lgc_ltt hc)
        exact hK131 _ _ _ _ _ _ _ _ _ hP (lv_sub hl [0, 1, 2, 4, 5, 6, 7] rfl) hW
      · have hP := hP.2 (lgc_ltf hc)
        refine lv_lload hx hb d_R_tell_74 (lv_at hl 2 rfl) ?_
        refine lv_lload hx hb d_R_tell_76 (lv_at hl 8 rfl) ?_
        refine lv_lsub hx hb d_R_tell_78 ?_
        refine lv_topl (fun x3 e_x3 => ?_)
        have hP := hP x3 e_x3
        refine lv_lstore (lv' := [(4, .long x3), (0, .ref (ha G 19)), (3, .ref (ha G 30)), (6, .int v6), (7, .int v7), (8, .int v8), (9, .int v9), (10, .int v10), (11, .long v11)]) hx hb d_R_tell_79 hl (by decide) rfl (fun ls hl => ?_)
        obtain ⟨x4, e_x4⟩ : ∃ z : Int32, z = v10 + 1 := ⟨_, rfl⟩
        have hP := hP x4 e_x4
        refine lv_iinc (k := 7) (lv' := [(10, .int x4), (4, .long x3), (0, .ref (ha G 19)), (3, .ref (ha G 30)), (6, .int v6), (7, .int v7), (8, .int v8), (9, .int v9), (11, .long v11)]) hx hb d_R_tell_81 hl rfl (ii_p1 e_x4) (by decide) rfl (fun ls hl => ?_)
        refine lv_aload_n hx hb d_R_tell_84 rfl (lv_at hl 2 rfl) ?_
        refine ygf_19_1 hx hb hown hE hW (lk_R_13 hE) d_R_tell_85 ?_
        refine ygn_9_4 hx hb hown hE hW (lk_R_36 hE) d_R_tell_88 ?_
        refine lv_iload hx hb d_R_tell_91 (lv_at hl 7 rfl) ?_
        refine ya_13 hx hb hE hW hP.1 d_R_tell_93 ?_
        have hP := hP.2
        refine lv_topi (fun x5 e_x5 => ?_)
        have hP := hP x5 e_x5
        refine lv_istore (lv' := [(9, .int x5), (10, .int x4), (4, .long x3), (0, .ref (ha G 19)), (3, .ref (ha G 30)), (6, .int v6), (7, .int v7), (8, .int v8), (11, .long v11)]) hx hb d_R_tell_94 hl (by decide) rfl (fun ls hl => ?_)
        refine lv_aload_n hx hb d_R_tell_96 rfl (lv_at hl 3 rfl) ?_
        refine ygf_19_1 hx hb hown hE hW (lk_R_13 hE) d_R_tell_97 ?_
        refine lv_aload_n hx hb d_R_tell_100 rfl (lv_at hl 3 rfl) ?_
        refine ygf_19_0 hx hb hown hE hW (lk_R_7 hE) d_R_tell_101 ?_
        refine ygn_1_3 hx hb hown hE hW (lk_R_39 hE) d_R_tell_104 ?_
        refine lv_iload hx hb d_R_tell_107 (lv_at hl 7 rfl) ?_
        refine ya_5 hx hb hE hW hP.1 d_R_tell_109 ?_
        have hP := hP.2
        refine lv_iload hx hb d_R_tell_110 (lv_at hl 1 rfl) ?_
        refine yc_l (yV (As := [.int (z0.1 5 v8.toNatClampNeg), .int x4]) (rest := []) E (c_T_choose _ _ _ _ hP) (cw_R_42 hE) (yrv_9 hE hW) (by decide) hW hl.1 rfl rfl rfl d_R_tell_112) hW (fun x7 z6 H locs hP hW => ?_)
        refine lv_aload_n hx hb d_R_tell_115 rfl (lv_at hl 3 rfl) ?_
        refine ygf_19_1 hx hb hown hE hW (lk_R_13 hE) d_R_tell_116 ?_
        refine ygn_9_5 hx hb hown hE hW (lk_R_29 hE) d_R_tell_119 ?_
        refine lv_iload hx hb d_R_tell_122 (lv_at hl 0 rfl) ?_
        refine ya_14 hx hb hE hW hP.1 d_R_tell_124 ?_
        have hP := hP.2
        refine lv_lmul hx hb d_R_tell_125 ?_
        refine lv_topl (fun x8 e_x8 => ?_)
        have hP := hP x8 e_x8
        refine lv_lstore (lv' := [(11, .long x8), (9, .int x5), (10, .int x4), (4, .long x3), (0, .ref (ha G 19)), (3, .ref (ha G 30)), (6, .int v6), (7, .int v7), (8, .int v8)]) hx hb d_R_tell_126 hl (by decide) rfl (fun ls hl => ?_)
        refine lv_goto (tgt := 51) hx hb d_R_tell_128 rfl ?_
        exact ih _ _ _ _ _ _ _ _ _ _ _ hP (lv_sub hl [4, 5, 3, 6, 7, 8, 1, 2, 0] rfl) hW
set_option maxHeartbeats 4000000 in
set_option maxRecDepth 100000 in
theorem wJ_R_tell_131 {K12 : Int64 → Int32 → Int32 → Int32 → St → Prop} {Q : St → Prop} (E : En p l s m meth c args cc_R_tell 15 R_R none G)
    (hK12 : ∀ (v4 : Int64) (v6 : Int32) (v7 : Int32) (v8 : Int32) (z0 : St) (ls : Array Slot) (H : Heap) (locs : List Loc), K12 v4 v6 v7 v8 z0 → lv_has ls 15 [(0, .ref (ha G 19)), (3, .ref (ha G 30)), (4, .long v4), (6, .int v6), (7, .int v7), (8, .int v8)] → Wd G z0 s.heap H locs → W p l e rm_R_tell s m args below meth c H locs 0 0 (MQ below (QvR Q G) args s 0 0 (fr G)) (F0 m 12 ls []))
    (v4 : Int64) (v7 : Int32) (v8 : Int32) (v9 : Int32) (v10 : Int32) (z0 : St) (ls : Array Slot) (H : Heap) (locs : List Loc) (hP : J_R_tell_131 K12 Q v4 v7 v8 v9 v10 z0) (hl : lv_has ls 15 [(0, .ref (ha G 19)), (3, .ref (ha G 30)), (4, .long v4), (7, .int v7), (8, .int v8), (9, .int v9), (10, .int v10)]) (hW : Wd G z0 s.heap H locs) : W p l e rm_R_tell s m args below meth c H locs 0 0 (MQ below (QvR Q G) args s 0 0 (fr G)) (F0 m 131 ls []) := by
  obtain ⟨hx, hb, hml, hown, hr, hlk, hex, hE⟩ := id E
  refine lv_lconst (v := 1) hx hb d_R_tell_131 (by decide) ?_
  refine lv_aload_n hx hb d_R_tell_132 rfl (lv_at hl 0 rfl) ?_
  refine ygf_19_1 hx hb hown hE hW (lk_R_13 hE) d_R_tell_133 ?_
  refine ygn_9_5 hx hb hown hE hW (lk_R_29 hE) d_R_tell_136 ?_
  refine lv_iload hx hb d_R_tell_139 (lv_at hl 5 rfl) ?_
  refine ya_14 hx hb hE hW hP.1 d_R_tell_141 ?_
  have hP := hP.2
  refine ym_maxL (rest := []) hx hb (hml.trans hl.1.symm) hown hE (lk_R_46 hE) (by decide) rfl d_R_tell_142 ?_
  refine lv_topl (fun x15 e_x15 => ?_)
  have hP := hP x15 e_x15
  refine lv_lstore (lv' := [(13, .long x15), (0, .ref (ha G 19)), (3, .ref (ha G 30)), (4, .long v4), (7, .int v7), (8, .int v8), (9, .int v9), (10, .int v10)]) hx hb d_R_tell_145 hl (by decide) rfl (fun ls hl => ?_)
  refine lv_aload_n hx hb d_R_tell_147 rfl (lv_at hl 1 rfl) ?_
  refine lv_iload hx hb d_R_tell_148 (lv_at hl 5 rfl) ?_
  refine lv_iload hx hb d_R_tell_150 (lv_at hl 7 rfl) ?_
  refine lv_lload hx hb d_R_tell_152 (lv_at hl 3 rfl) ?_
  refine lv_lload hx hb d_R_tell_154 (lv_at hl 0 rfl) ?_
  refine lv_ldiv hx hb d_R_tell_156 hP.1 ?_
  have hP := hP.2
  refine lv_aload_n hx hb d_R_tell_157 rfl (lv_at hl 2 rfl) ?_
  refine lv_iload hx hb d_R_tell_158 (lv_at hl 4 rfl) ?_
  refine yc_v (yV (As := [.int v8, .int v10, .long (v4 / x15), .ref (ha G 30), .int v7]) (rest := []) E (c_R_tellKind _ _ _ _ _ _ hP) (cw_R_52 hE) (yrv_19 hE hW) (by decide) hW hl.1 rfl rfl rfl d_R_tell_160) hW (fun z16 H locs hP hW => ?_)
  refine lv_lload hx hb d_R_tell_163 (lv_at hl 3 rfl) ?_
  refine lv_lload hx hb d_R_tell_165 (lv_at hl 0 rfl) ?_
  refine lv_lrem hx hb d_R_tell_167 hP.1 ?_
  have hP := hP.2
  refine lv_topl (fun x17 e_x17 => ?_)
  have hP := hP x17 e_x17
  refine lv_lstore (lv' := [(4, .long x17), (13, .long x15), (0, .ref (ha G 19)), (3, .ref (ha G 30)), (7, .int v7), (8, .int v8), (9, .int v9), (10, .int v10)]) hx hb d_R_tell_168 hl (by decide) rfl (fun ls hl => ?_)
  refine lv_iload hx hb d_R_tell_170 (lv_at hl 4 rfl) ?_
  refine lv_iload hx hb d_R_tell_172 (lv_at hl 7 rfl) ?_
  refine lv_iadd hx hb d_R_tell_174 ?_
  refine lv_topi (fun x18 e_x18 => ?_)
  have hP := hP x18 e_x18
  refine lv_istore (lv' := [(7, .int x18), (4, .long x17), (13, .long x15), (0, .ref (ha G 19)), (3, .ref (ha G 30)), (8, .int v8), (9, .int v9), (10, .int v10)]) hx hb d_R_tell_175 hl (by decide) rfl (fun ls hl => ?_)
  refine lv_iload hx hb d_R_tell_177 (lv_at hl 6 rfl) ?_
  refine lv_istore (lv' := [(6, .int v9), (7, .int x18), (4, .long x17), (13, .long x15), (0, .ref (ha G 19)), (3, .ref (ha G 30)), (8, .int v8), (9, .int v9), (10, .int v10)]) hx hb d_R_tell_179 hl (by decide) rfl (fun ls hl => ?_)
  obtain ⟨x19, e_x19⟩ : ∃ z : Int32, z = v8 + 1 := ⟨_, rfl⟩
  have hP := hP x19 e_x19
  refine lv_iinc (k := 6) (lv' := [(8, .int x19), (6, .int v9), (7, .int x18), (4, .long x17), (13, .long x15), (0, .ref (ha G 19)), (3, .ref (ha G 30)), (9, .int v9), (10, .int v10)]) hx hb d_R_tell_181 hl rfl (ii_p1 e_x19) (by decide) rfl (fun ls hl => ?_)
  refine lv_goto (tgt := 12) hx hb d_R_tell_184 rfl ?_
  exact hK12 _ _ _ _ _ _ _ _ hP (lv_sub hl [5, 6, 3, 1, 2, 0] rfl) hW
set_option maxHeartbeats 4000000 in
set_option maxRecDepth 100000 in
theorem wL_R_tell_12 {Q : St → Prop} (E : En p l s m meth c args cc_R_tell 15 R_R none G) :
    ∀ (n : Nat) (v4 : Int64) (v6 : Int32) (v7 : Int32) (v8 : Int32) (z0 : St) (ls : Array Slot) (H : Heap) (locs : List Loc), L_R_tell_12 Q n v4 v6 v7 v8 z0 → lv_has ls 15 [(0, .ref (ha G 19)), (3, .ref (ha G 30)), (4, .long v4), (6, .int v6), (7, .int v7), (8, .int v8)] → Wd G z0 s.heap H locs → W p l e rm_R_tell s m args below meth c H locs 0 0 (MQ below (QvR Q G) args s 0 0 (fr G)) (F0 m 12 ls []) := by
  obtain ⟨hx, hb, hml, hown, hr, hlk, hex, hE⟩ := id E
  intro n
  induction n with
  | zero => exact fun _ _ _ _ _ _ _ _ hP _ _ => hP.elim
  | succ n ih =>
    intro v4 v6 v7 v8 z0 ls H locs hP hl hW
    refine lv_iload hx hb d_R_tell_12 (lv_at hl 5 rfl) ?_
    refine lv_aload_n hx hb d_R_tell_14 rfl (lv_at hl 0 rfl) ?_
    refine ygf_19_0 hx hb hown hE hW (lk_R_7 hE) d_R_tell_15 ?_
    refine ygn_1_5 hx hb hown hE hW (lk_R_17 hE) d_R_tell_18 ?_
    refine lv_icmp_ge (tgt := 187) hx hb d_R_tell_21 rfl (fun hc => ?_) (fun hc => ?_)
    · have hP := hP.1 hc
      exact yr_v hx hb hr hlk hW hP d_R_tell_187
    · have hP := hP.2 hc
      refine lv_aload_n hx hb d_R_tell_24 rfl (lv_at hl 0 rfl) ?_
      refine ygf_19_1 hx hb hown hE hW (lk_R_13 hE) d_R_tell_25 ?_
      refine ygn_9_3 hx hb hown hE hW (lk_R_23 hE) d_R_tell_28 ?_
      refine lv_iload hx hb d_R_tell_31 (lv_at hl 3 rfl) ?_
      refine ya_12 hx hb hE hW hP.1 d_R_tell_33 ?_
      have hP := hP.2
      refine lv_topi (fun x1 e_x1 => ?_)
      have hP := hP x1 e_x1
      refine lv_istore (lv' := [(9, .int x1), (0, .ref (ha G 19)), (3, .ref (ha G 30)), (4, .long v4), (6, .int v6), (7, .int v7), (8, .int v8)]) hx hb d_R_tell_34 hl (by decide) rfl (fun ls hl => ?_)
      refine lv_iconst (v := 0) hx hb d_R_tell_36 (by decide) ?_
      refine lv_istore (lv' := [(10, .int (0 : Int32)), (9, .int x1), (0, .ref (ha G 19)), (3, .ref (ha G 30)), (4, .long v4), (6, .int v6), (7, .int v7), (8, .int v8)]) hx hb d_R_tell_37 hl (by decide) rfl (fun ls hl => ?_)
      refine lv_aload_n hx hb d_R_tell_39 rfl (lv_at hl 2 rfl) ?_
      refine ygf_19_1 hx hb hown hE hW (lk_R_13 hE) d_R_tell_40 ?_
      refine ygn_9_5 hx hb hown hE hW (lk_R_29 hE) d_R_tell_43 ?_
      refine lv_iload hx hb d_R_tell_46 (lv_at hl 1 rfl) ?_
      refine ya_14 hx hb hE hW hP.1 d_R_tell_48 ?_
      have hP := hP.2
      refine lv_topl (fun x2 e_x2 => ?_)
      have hP := hP x2 e_x2
      refine lv_lstore (lv' := [(11, .long x2), (10, .int (0 : Int32)), (9, .int x1), (0, .ref (ha G 19)), (3, .ref (ha G 30)), (4, .long v4), (6, .int v6), (7, .int v7), (8, .int v8)]) hx hb d_R_tell_49 hl (by decide) rfl (fun ls hl => ?_)
      obtain ⟨n2, hP⟩ := hP
      refine wL_R_tell_51 E ?_ n2 _ _ _ _ _ _ _ _ _ _ _ hP (lv_sub hl [3, 4, 5, 6, 7, 8, 2, 1, 0] rfl) hW
      · intro x9 x10 x11 x12 x13 z14 ls H locs hP hl hW
        exact wJ_R_tell_131 E ih _ _ _ _ _ _ _ _ _ hP hl hW
set_option maxHeartbeats 4000000 in
set_option maxRecDepth 100000 in
theorem c_R_tell {l : Launch} {G : GG} (a1 : Int64) (z0 : St) (Q : St → Prop) (hP : P_R_tell a1 z0 Q) : Ctv l y_R_tell cc_R_tell 15 none rm_R_tell G [.ref (ha G 19), .long a1, .ref (ha G 30)] z0 Q := by
  refine Ctv.op (own := R_R) (by decide) rfl (Nat.le_of_ble_eq_true rfl) (fun p e s m args below meth c ls E hl hW => ?_)
  obtain ⟨hx, hb, hml, hown, hr, hlk, hex, hE⟩ := id E
  have hl : lv_has ls 15 [(0, .ref (ha G 19)), (1, .long a1), (3, .ref (ha G 30))] := hl
  refine lv_lload_n hx hb d_R_tell_0 rfl (lv_at hl 1 rfl) ?_
  refine lv_lstore (lv' := [(4, .long a1), (0, .ref (ha G 19)), (1, .long a1), (3, .ref (ha G 30))]) hx hb d_R_tell_1 hl (by decide) rfl (fun ls hl => ?_)
  refine lv_iconst (v := 0) hx hb d_R_tell_3 (by decide) ?_
  refine lv_istore (lv' := [(6, .int (0 : Int32)), (4, .long a1), (0, .ref (ha G 19)), (1, .long a1), (3, .ref (ha G 30))]) hx hb d_R_tell_4 hl (by decide) rfl (fun ls hl => ?_)
  refine lv_iconst (v := 0) hx hb d_R_tell_6 (by decide) ?_
  refine lv_istore (lv' := [(7, .int (0 : Int32)), (6, .int (0 : Int32)), (4, .long a1), (0, .ref (ha G 19)), (1, .long a1), (3, .ref (ha G 30))]) hx hb d_R_tell_7 hl (by decide) rfl (fun ls hl => ?_)
  refine lv_iconst (v := 0) hx hb d_R_tell_9 (by decide) ?_
  refine lv_istore (lv' := [(8, .int (0 : Int32)), (7, .int (0 : Int32)), (6, .int (0 : Int32)), (4, .long a1), (0, .ref (ha G 19)), (1, .long a1), (3, .ref (ha G 30))]) hx hb d_R_tell_10 hl (by decide) rfl (fun ls hl => ?_)
  obtain ⟨n2, hP⟩ := hP
  refine wL_R_tell_12 E n2 _ _ _ _ _ _ _ _ hP (lv_sub hl [4, 6, 3, 2, 1, 0] rfl) hW
theorem d_O_panel_0 : decode cc_O_panel 0 = .ok (.aload_n 0, 1) := by decide +kernel
theorem d_O_panel_1 : decode cc_O_panel 1 = .ok (.iload_n 3, 1) := by decide +kernel
theorem d_O_panel_2 : decode cc_O_panel 2 = .ok (.invokevirtual 185, 3) := by decide +kernel
theorem d_O_panel_5 : decode cc_O_panel 5 = .ok (.aload_n 0, 1) := by decide +kernel
theorem d_O_panel_6 : decode cc_O_panel 6 = .ok (.invokevirtual 137, 3) := by decide +kernel
theorem d_O_panel_9 : decode cc_O_panel 9 = .ok (.lload_n 1, 1) := by decide +kernel
theorem d_O_panel_10 : decode cc_O_panel 10 = .ok (.lconst 0, 1) := by decide +kernel
theorem d_O_panel_11 : decode cc_O_panel 11 = .ok (.lcmp, 1) := by decide +kernel
theorem d_O_panel_12 : decode cc_O_panel 12 = .ok (.ifCond .lt 15, 3) := by decide +kernel
theorem d_O_panel_15 : decode cc_O_panel 15 = .ok (.lload_n 1, 1) := by decide +kernel
theorem d_O_panel_16 : decode cc_O_panel 16 = .ok (.aload_n 0, 1) := by decide +kernel
theorem d_O_panel_17 : decode cc_O_panel 17 = .ok (.getfield 28, 3) := by decide +kernel
theorem d_O_panel_20 : decode cc_O_panel 20 = .ok (.invokevirtual 140, 3) := by decide +kernel
theorem d_O_panel_23 : decode cc_O_panel 23 = .ok (.lcmp, 1) := by decide +kernel
theorem d_O_panel_24 : decode cc_O_panel 24 = .ok (.ifCond .lt 13, 3) := by decide +kernel
theorem d_O_panel_27 : decode cc_O_panel 27 = .ok (.new 87, 3) := by decide +kernel
theorem d_O_panel_30 : decode cc_O_panel 30 = .ok (.dup, 1) := by decide +kernel
theorem d_O_panel_31 : decode cc_O_panel 31 = .ok (.ldc 188, 2) := by decide +kernel
theorem d_O_panel_33 : decode cc_O_panel 33 = .ok (.invokespecial 91, 3) := by decide +kernel
theorem d_O_panel_36 : decode cc_O_panel 36 = .ok (.athrow, 1) := by decide +kernel
theorem d_O_panel_37 : decode cc_O_panel 37 = .ok (.aload_n 0, 1) := by decide +kernel
theorem d_O_panel_38 : decode cc_O_panel 38 = .ok (.getfield 37, 3) := by decide +kernel
theorem d_O_panel_41 : decode cc_O_panel 41 = .ok (.lload_n 1, 1) := by decide +kernel
theorem d_O_panel_42 : decode cc_O_panel 42 = .ok (.aload_n 0, 1) := by decide +kernel
theorem d_O_panel_43 : decode cc_O_panel 43 = .ok (.getfield 64, 3) := by decide +kernel
theorem d_O_panel_46 : decode cc_O_panel 46 = .ok (.invokevirtual 190, 3) := by decide +kernel
theorem d_O_panel_49 : decode cc_O_panel 49 = .ok (.aload_n 0, 1) := by decide +kernel
theorem d_O_panel_50 : decode cc_O_panel 50 = .ok (.getfield 64, 3) := by decide +kernel
theorem d_O_panel_53 : decode cc_O_panel 53 = .ok (.iload_n 3, 1) := by decide +kernel
theorem d_O_panel_54 : decode cc_O_panel 54 = .ok (.iaload, 1) := by decide +kernel
theorem d_O_panel_55 : decode cc_O_panel 55 = .ok (.ireturn, 1) := by decide +kernel
def P_O_panel (a1 : Int64) (a3 : Int32) (z0 : St) (Q : Int32 → St → Prop) (X : Nat → St → Prop) : Prop := P_O_requirePlace a3 z0 (fun (z1 : St) => P_O_requireCountable z1 (fun (z2 : St) => ((a1 < (0 : Int64)) → X 0 z2) ∧ ((¬ a1 < (0 : Int64)) → P_T_panels z2 (fun (x4 : Int64) (z3 : St) => ((a1 < x4) → P_R_tell a1 z3 (fun (z5 : St) => vp_in a3 8 ∧ Q (z5.1 30 a3.toNatClampNeg) z5)) ∧ ((¬ a1 < x4) → X 0 z3)))) X) X
set_option maxHeartbeats 4000000 in
set_option maxRecDepth 100000 in
theorem c_O_panel {l : Launch} {G : GG} (a1 : Int64) (a3 : Int32) (z0 : St) (Q : Int32 → St → Prop) (X : Nat → St → Prop) (hP : P_O_panel a1 a3 z0 Q X) : CtiX l y_O_panel cc_O_panel 4 (some .int) rm_O_panel G [.ref (ha G 0), .long a1, .int a3] z0 Q X := by
  refine CtiX.op (own := R_O) (by decide) rfl (Nat.le_of_ble_eq_true rfl) (fun p e s m args below meth c ls E hl hW => ?_)
  obtain ⟨hx, hb, hml, hown, hr, hlk, hex, hE⟩ := id E
  have hl : lv_has ls 4 [(0, .ref (ha G 0)), (1, .long a1), (3, .int a3)] := hl
  refine lv_aload_n hx hb d_O_panel_0 rfl (lv_at hl 0 rfl) ?_
  refine lv_iload_n hx hb d_O_panel_1 rfl (lv_at hl 2 rfl) ?_
  refine yx_v (yVX (As := [.int a3]) (rest := []) E (c_O_requirePlace _ _ _ _ hP) (cw_O_185 hE) (yrv_0 hE hW) (by decide) hW hl.1 rfl rfl rfl d_O_panel_2) hW (fun z1 H locs hP hW => ?_) hlk hex (fun _ _ h1 h2 => Or.inr ⟨h1, h2⟩)
  refine lv_aload_n hx hb d_O_panel_5 rfl (lv_at hl 0 rfl) ?_
  refine yx_v (yVX (As := []) (rest := []) E (c_O_requireCountable _ _ _ hP) (cw_O_137 hE) (yrv_0 hE hW) (by decide) hW hl.1 rfl rfl rfl d_O_panel_6) hW (fun z2 H locs hP hW => ?_) hlk hex (fun _ _ h1 h2 => Or.inr ⟨h1, h2⟩)
  refine lv_lload_n hx hb d_O_panel_9 rfl (lv_at hl 1 rfl) ?_
  refine lv_lconst (v := 0) hx hb d_O_panel_10 (by decide) ?_
  refine W.lcmp hx hb d_O_panel_11 ?_
  refine lv_if_lt (tgt := 27) hx hb d_O_panel_12 rfl (fun hc => ?_) (fun hc => ?_)
  · have hP := hP.1 (lgc_ltt hc)
    exact yt (k := 0) hx hb hown hlk hex hE hW hl.1 hml (by decide) (by decide) (fun _ h => lt_O_0_188 h) d_O_panel_27 d_O_panel_30 (Or.inl ⟨d_O_panel_31, rfl⟩) d_O_panel_33 d_O_panel_36 hP (fun _ _ h1 h2 => Or.inr ⟨h1, h2⟩)
  · have hP := hP.2 (lgc_ltf hc)
    refine lv_lload_n hx hb d_O_panel_15 rfl (lv_at hl 1 rfl) ?_
    refine lv_aload_n hx hb d_O_panel_16 rfl (lv_at hl 0 rfl) ?_
    refine ygf_0_2 hx hb hown hE hW (lk_O_28 hE) d_O_panel_17 ?_
    refine yc_l (yV (As := []) (rest := [.long a1]) E (c_T_panels _ _ hP) (cw_O_140 hE) (yrv_9 hE hW) (by decide) hW hl.1 rfl rfl rfl d_O_panel_20) hW (fun x4 z3 H locs hP hW => ?_)
    refine W.lcmp hx hb d_O_panel_23 ?_
    refine lv_if_lt (tgt := 37) hx hb d_O_panel_24 rfl (fun hc => ?_) (fun hc => ?_)
    · have hP := hP.1 (lgc_ltt hc)
      refine lv_aload_n hx hb d_O_panel_37 rfl (lv_at hl 0 rfl) ?_
      refine ygf_0_3 hx hb hown hE hW (lk_O_37 hE) d_O_panel_38 ?_
      refine lv_lload_n hx hb d_O_panel_41 rfl (lv_at hl 1 rfl) ?_
      refine lv_aload_n hx hb d_O_panel_42 rfl (lv_at hl 0 rfl) ?_
      refine ygf_0_7 hx hb hown hE hW (lk_O_64 hE) d_O_panel_43 ?_
      refine yc_v (yV (As := [.long a1, .ref (ha G 30)]) (rest := []) E (c_R_tell _ _ _ hP) (cw_O_190 hE) (yrv_19 hE hW) (by decide) hW hl.1 rfl rfl rfl d_O_panel_46) hW (fun z5 H locs hP hW => ?_)
      refine lv_aload_n hx hb d_O_panel_49 rfl (lv_at hl 0 rfl) ?_
      refine ygf_0_7 hx hb hown hE hW (lk_O_64 hE) d_O_panel_50 ?_
      refine lv_iload_n hx hb d_O_panel_53 rfl (lv_at hl 2 rfl) ?_
      refine ya_30 hx hb hE hW hP.1 d_O_panel_54 ?_
      have hP := hP.2
      exact yr_iX hx hb hr hlk hW hP d_O_panel_55
    · have hP := hP.2 (lgc_ltf hc)
      exact yt (k := 0) hx hb hown hlk hex hE hW hl.1 hml (by decide) (by decide) (fun _ h => lt_O_0_188 h) d_O_panel_27 d_O_panel_30 (Or.inl ⟨d_O_panel_31, rfl⟩) d_O_panel_33 d_O_panel_36 hP (fun _ _ h1 h2 => Or.inr ⟨h1, h2⟩)
theorem d_O_isIn_0 : decode cc_O_isIn 0 = .ok (.lload_n 0, 1) := by decide +kernel
theorem d_O_isIn_1 : decode cc_O_isIn 1 = .ok (.iload_n 2, 1) := by decide +kernel
theorem d_O_isIn_2 : decode cc_O_isIn 2 = .ok (.lshr, 1) := by decide +kernel
theorem d_O_isIn_3 : decode cc_O_isIn 3 = .ok (.lconst 1, 1) := by decide +kernel
theorem d_O_isIn_4 : decode cc_O_isIn 4 = .ok (.land, 1) := by decide +kernel
theorem d_O_isIn_5 : decode cc_O_isIn 5 = .ok (.lconst 0, 1) := by decide +kernel
theorem d_O_isIn_6 : decode cc_O_isIn 6 = .ok (.lcmp, 1) := by decide +kernel
theorem d_O_isIn_7 : decode cc_O_isIn 7 = .ok (.ifCond .eq 7, 3) := by decide +kernel
theorem d_O_isIn_10 : decode cc_O_isIn 10 = .ok (.iconst 1, 1) := by decide +kernel
theorem d_O_isIn_11 : decode cc_O_isIn 11 = .ok (.goto 4, 3) := by decide +kernel
theorem d_O_isIn_14 : decode cc_O_isIn 14 = .ok (.iconst 0, 1) := by decide +kernel
theorem d_O_isIn_15 : decode cc_O_isIn 15 = .ok (.ireturn, 1) := by decide +kernel
def P_O_isIn (a0 : Int64) (a2 : Int32) (z0 : St) (Q : Int32 → St → Prop) : Prop := ((((a0 >>> (a2.toInt64 &&& 63)) &&& (1 : Int64)) = (0 : Int64)) → Q (0 : Int32) z0) ∧ ((¬ ((a0 >>> (a2.toInt64 &&& 63)) &&& (1 : Int64)) = (0 : Int64)) → Q (1 : Int32) z0)
set_option maxHeartbeats 4000000 in
set_option maxRecDepth 100000 in
theorem c_O_isIn {l : Launch} {G : GG} (a0 : Int64) (a2 : Int32) (z0 : St) (Q : Int32 → St → Prop) (hP : P_O_isIn a0 a2 z0 Q) : Cti l y_O_isIn cc_O_isIn 3 (some .boolean) rm_O_isIn G [.long a0, .int a2] z0 Q := by
  refine Cti.op (own := R_O) (by decide) rfl (Nat.le_of_ble_eq_true rfl) (fun p e s m args below meth c ls E hl hW => ?_)
  obtain ⟨hx, hb, hml, hown, hr, hlk, hex, hE⟩ := id E
  have hl : lv_has ls 3 [(0, .long a0), (2, .int a2)] := hl
  refine lv_lload_n hx hb d_O_isIn_0 rfl (lv_at hl 0 rfl) ?_
  refine lv_iload_n hx hb d_O_isIn_1 rfl (lv_at hl 1 rfl) ?_
  refine lv_lshr hx hb d_O_isIn_2 rfl ?_
  refine lv_lconst (v := 1) hx hb d_O_isIn_3 (by decide) ?_
  refine lv_land hx hb d_O_isIn_4 ?_
  refine lv_lconst (v := 0) hx hb d_O_isIn_5 (by decide) ?_
  refine W.lcmp hx hb d_O_isIn_6 ?_
  refine lv_if_eq (tgt := 14) hx hb d_O_isIn_7 rfl (fun hc => ?_) (fun hc => ?_)
  · have hP := hP.1 (lgc_eqt hc)
    refine lv_iconst (v := 0) hx hb d_O_isIn_14 (by decide) ?_
    exact yr_z hx hb hr hlk hW zb_0 hP d_O_isIn_15
  · have hP := hP.2 (lgc_eqf hc)
    refine lv_iconst (v := 1) hx hb d_O_isIn_10 (by decide) ?_
    refine lv_goto (tgt := 15) hx hb d_O_isIn_11 rfl ?_
    exact yr_z hx hb hr hlk hW zb_1 hP d_O_isIn_15
end Code
