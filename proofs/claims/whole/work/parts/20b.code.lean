/-! T_takesFrom, T_addLayer, T_isPanel, T_choose, T_aheadWithAny, T_countAhead, T_build, O_refreshTally, T_isRefused, O_requireCountable, T_panels, O_count, T_statesFound, O_states, O_requirePerson, P_kindOf -/
section Code
variable {p : Program} {l : Launch} {e : Env} {s : State} {m : MethodId} {args : Array Value} {below : List Frame} {meth : Method} {c : Code} {G : GG}
theorem d_T_takesFrom_0 : decode cc_T_takesFrom 0 = .ok (.aload_n 0, 1) := by decide +kernel
theorem d_T_takesFrom_1 : decode cc_T_takesFrom 1 = .ok (.getfield 51, 3) := by decide +kernel
theorem d_T_takesFrom_4 : decode cc_T_takesFrom 4 = .ok (.getfield 87, 3) := by decide +kernel
theorem d_T_takesFrom_7 : decode cc_T_takesFrom 7 = .ok (.iload_n 3, 1) := by decide +kernel
theorem d_T_takesFrom_8 : decode cc_T_takesFrom 8 = .ok (.iaload, 1) := by decide +kernel
theorem d_T_takesFrom_9 : decode cc_T_takesFrom 9 = .ok (.iload 5, 2) := by decide +kernel
theorem d_T_takesFrom_11 : decode cc_T_takesFrom 11 = .ok (.lload_n 1, 1) := by decide +kernel
theorem d_T_takesFrom_12 : decode cc_T_takesFrom 12 = .ok (.bipush 12, 2) := by decide +kernel
theorem d_T_takesFrom_14 : decode cc_T_takesFrom 14 = .ok (.invokestatic 107, 3) := by decide +kernel
theorem d_T_takesFrom_17 : decode cc_T_takesFrom 17 = .ok (.isub, 1) := by decide +kernel
theorem d_T_takesFrom_18 : decode cc_T_takesFrom 18 = .ok (.invokestatic 55, 3) := by decide +kernel
theorem d_T_takesFrom_21 : decode cc_T_takesFrom 21 = .ok (.istore 6, 2) := by decide +kernel
theorem d_T_takesFrom_23 : decode cc_T_takesFrom 23 = .ok (.iconst 0, 1) := by decide +kernel
theorem d_T_takesFrom_24 : decode cc_T_takesFrom 24 = .ok (.istore 7, 2) := by decide +kernel
theorem d_T_takesFrom_26 : decode cc_T_takesFrom 26 = .ok (.iload 7, 2) := by decide +kernel
theorem d_T_takesFrom_28 : decode cc_T_takesFrom 28 = .ok (.iconst 3, 1) := by decide +kernel
theorem d_T_takesFrom_29 : decode cc_T_takesFrom 29 = .ok (.if_icmp .ge 52, 3) := by decide +kernel
theorem d_T_takesFrom_32 : decode cc_T_takesFrom 32 = .ok (.iload 7, 2) := by decide +kernel
theorem d_T_takesFrom_34 : decode cc_T_takesFrom 34 = .ok (.aload_n 0, 1) := by decide +kernel
theorem d_T_takesFrom_35 : decode cc_T_takesFrom 35 = .ok (.getfield 51, 3) := by decide +kernel
theorem d_T_takesFrom_38 : decode cc_T_takesFrom 38 = .ok (.getfield 94, 3) := by decide +kernel
theorem d_T_takesFrom_41 : decode cc_T_takesFrom 41 = .ok (.iload_n 3, 1) := by decide +kernel
theorem d_T_takesFrom_42 : decode cc_T_takesFrom 42 = .ok (.iaload, 1) := by decide +kernel
theorem d_T_takesFrom_43 : decode cc_T_takesFrom 43 = .ok (.iload 7, 2) := by decide +kernel
theorem d_T_takesFrom_45 : decode cc_T_takesFrom 45 = .ok (.invokestatic 111, 3) := by decide +kernel
theorem d_T_takesFrom_48 : decode cc_T_takesFrom 48 = .ok (.invokestatic 114, 3) := by decide +kernel
theorem d_T_takesFrom_51 : decode cc_T_takesFrom 51 = .ok (.istore 8, 2) := by decide +kernel
theorem d_T_takesFrom_53 : decode cc_T_takesFrom 53 = .ok (.iload 6, 2) := by decide +kernel
theorem d_T_takesFrom_55 : decode cc_T_takesFrom 55 = .ok (.aload 4, 2) := by decide +kernel
theorem d_T_takesFrom_57 : decode cc_T_takesFrom 57 = .ok (.getfield 117, 3) := by decide +kernel
theorem d_T_takesFrom_60 : decode cc_T_takesFrom 60 = .ok (.iload 8, 2) := by decide +kernel
theorem d_T_takesFrom_62 : decode cc_T_takesFrom 62 = .ok (.iaload, 1) := by decide +kernel
theorem d_T_takesFrom_63 : decode cc_T_takesFrom 63 = .ok (.lload_n 1, 1) := by decide +kernel
theorem d_T_takesFrom_64 : decode cc_T_takesFrom 64 = .ok (.iload 8, 2) := by decide +kernel
theorem d_T_takesFrom_66 : decode cc_T_takesFrom 66 = .ok (.invokestatic 107, 3) := by decide +kernel
theorem d_T_takesFrom_69 : decode cc_T_takesFrom 69 = .ok (.isub, 1) := by decide +kernel
theorem d_T_takesFrom_70 : decode cc_T_takesFrom 70 = .ok (.invokestatic 55, 3) := by decide +kernel
theorem d_T_takesFrom_73 : decode cc_T_takesFrom 73 = .ok (.istore 6, 2) := by decide +kernel
theorem d_T_takesFrom_75 : decode cc_T_takesFrom 75 = .ok (.iinc 7 1, 3) := by decide +kernel
theorem d_T_takesFrom_78 : decode cc_T_takesFrom 78 = .ok (.goto (-52), 3) := by decide +kernel
theorem d_T_takesFrom_81 : decode cc_T_takesFrom 81 = .ok (.iload 6, 2) := by decide +kernel
theorem d_T_takesFrom_83 : decode cc_T_takesFrom 83 = .ok (.ireturn, 1) := by decide +kernel
def L_T_takesFrom_26 (Q : Int32 → St → Prop) : Nat → Int64 → Int32 → Int32 → Int32 → St → Prop
  | 0, _, _, _, _, _ => False
  | n + 1, v1, v3, v6, v7, z0 => (((3 : Int32) ≤ v7) → Q v6 z0) ∧ ((¬ (3 : Int32) ≤ v7) → vp_in v3 16 ∧ P_P_valueIn (z0.1 4 v3.toNatClampNeg) v7 z0 (fun (x5 : Int32) (z4 : St) => P_O_quotaOf v7 x5 z4 (fun (x7 : Int32) (z6 : St) => vp_in x7 12 ∧ P_T_field v1 x7 z6 (fun (x9 : Int32) (z8 : St) => ∀ x10 : Int32, x10 = (mminI v6 ((z6.1 8 x7.toNatClampNeg) - x9)) → ∀ x11 : Int32, x11 = v7 + 1 → L_T_takesFrom_26 Q n v1 v3 x10 x11 z8))))
def P_T_takesFrom (a1 : Int64) (a3 : Int32) (a5 : Int32) (z0 : St) (Q : Int32 → St → Prop) : Prop := vp_in a3 16 ∧ P_T_field a1 (12 : Int32) z0 (fun (x2 : Int32) (z1 : St) => ∀ x3 : Int32, x3 = (mminI (z0.1 5 a3.toNatClampNeg) (a5 - x2)) → ∃ k26 : Nat, L_T_takesFrom_26 Q k26 a1 a3 x3 (0 : Int32) z1)
set_option maxHeartbeats 4000000 in
set_option maxRecDepth 100000 in
theorem wL_T_takesFrom_26 {Q : Int32 → St → Prop} (E : En p l s m meth c args cc_T_takesFrom 9 R_T (some .int) G) :
    ∀ (n : Nat) (v1 : Int64) (v3 : Int32) (v6 : Int32) (v7 : Int32) (z0 : St) (ls : Array Slot) (H : Heap) (locs : List Loc), L_T_takesFrom_26 Q n v1 v3 v6 v7 z0 → lv_has ls 9 [(0, .ref (ha G 9)), (1, .long v1), (3, .int v3), (4, .ref (ha G 6)), (6, .int v6), (7, .int v7)] → Wd G z0 s.heap H locs → W p l e rm_T_takesFrom s m args below meth c H locs 0 0 (MQ below (QiR Q G) args s 0 0 (fr G)) (F0 m 26 ls []) := by
  obtain ⟨hx, hb, hml, hown, hr, hlk, hex, hE⟩ := id E
  intro n
  induction n with
  | zero => exact fun _ _ _ _ _ _ _ _ hP _ _ => hP.elim
  | succ n ih =>
    intro v1 v3 v6 v7 z0 ls H locs hP hl hW
    refine lv_iload hx hb d_T_takesFrom_26 (lv_at hl 5 rfl) ?_
    refine lv_iconst (v := 3) hx hb d_T_takesFrom_28 (by decide) ?_
    refine lv_icmp_ge (tgt := 81) hx hb d_T_takesFrom_29 rfl (fun hc => ?_) (fun hc => ?_)
    · have hP := hP.1 hc
      refine lv_iload hx hb d_T_takesFrom_81 (lv_at hl 4 rfl) ?_
      exact yr_i hx hb hr hlk hW hP d_T_takesFrom_83
    · have hP := hP.2 hc
      refine lv_iload hx hb d_T_takesFrom_32 (lv_at hl 5 rfl) ?_
      refine lv_aload_n hx hb d_T_takesFrom_34 rfl (lv_at hl 0 rfl) ?_
      refine ygf_9_0 hx hb hown hE hW (lk_T_51 hE) d_T_takesFrom_35 ?_
      refine ygn_1_2 hx hb hown hE hW (lk_T_94 hE) d_T_takesFrom_38 ?_
      refine lv_iload_n hx hb d_T_takesFrom_41 rfl (lv_at hl 2 rfl) ?_
      refine ya_4 hx hb hE hW hP.1 d_T_takesFrom_42 ?_
      have hP := hP.2
      refine lv_iload hx hb d_T_takesFrom_43 (lv_at hl 5 rfl) ?_
      refine yc_i (yS (As := [.int (z0.1 4 v3.toNatClampNeg), .int v7]) (rest := [.int v7]) E (c_P_valueIn _ _ _ _ hP) (cw_T_111 hE) (by decide) hW hl.1 rfl rfl rfl d_T_takesFrom_45) hW (fun x5 z4 H locs hP hW => ?_)
      refine yc_i (ySN (As := [.int v7, .int x5]) (rest := []) E (c_O_quotaOf _ _ _ _ hP) (cw_T_114 hE) (by decide) hW hl.1 rfl rfl rfl d_T_takesFrom_48) hW (fun x7 z6 H locs hP hW => ?_)
      refine lv_istore (lv' := [(8, .int x7), (0, .ref (ha G 9)), (1, .long v1), (3, .int v3), (4, .ref (ha G 6)), (6, .int v6), (7, .int v7)]) hx hb d_T_takesFrom_51 hl (by decide) rfl (fun ls hl => ?_)
      refine lv_iload hx hb d_T_takesFrom_53 (lv_at hl 5 rfl) ?_
      refine lv_aload hx hb d_T_takesFrom_55 (lv_at hl 4 rfl) ?_
      refine ygn_6_1 hx hb hown hE hW (lk_T_117 hE) d_T_takesFrom_57 ?_
      refine lv_iload hx hb d_T_takesFrom_60 (lv_at hl 0 rfl) ?_
      refine ya_8 hx hb hE hW hP.1 d_T_takesFrom_62 ?_
      have hP := hP.2
      refine lv_lload_n hx hb d_T_takesFrom_63 rfl (lv_at hl 2 rfl) ?_
      refine lv_iload hx hb d_T_takesFrom_64 (lv_at hl 0 rfl) ?_
      refine yc_i (yS (As := [.long v1, .int x7]) (rest := [.int (z6.1 8 x7.toNatClampNeg), .int v6]) E (c_T_field _ _ _ _ hP) (cw_T_107 hE) (by decide) hW hl.1 rfl rfl rfl d_T_takesFrom_66) hW (fun x9 z8 H locs hP hW => ?_)
      refine lv_isub hx hb d_T_takesFrom_69 ?_
      refine ym_minI (rest := []) hx hb (hml.trans hl.1.symm) hown hE (lk_T_55 hE) (by decide) rfl d_T_takesFrom_70 ?_
      refine lv_topi (fun x10 e_x10 => ?_)
      have hP := hP x10 e_x10
      refine lv_istore (lv' := [(6, .int x10), (8, .int x7), (0, .ref (ha G 9)), (1, .long v1), (3, .int v3), (4, .ref (ha G 6)), (7, .int v7)]) hx hb d_T_takesFrom_73 hl (by decide) rfl (fun ls hl => ?_)
      obtain ⟨x11, e_x11⟩ : ∃ z : Int32, z = v7 + 1 := ⟨_, rfl⟩
      have hP := hP x11 e_x11
      refine lv_iinc (k := 6) (lv' := [(7, .int x11), (6, .int x10), (8, .int x7), (0, .ref (ha G 9)), (1, .long v1), (3, .int v3), (4, .ref (ha G 6))]) hx hb d_T_takesFrom_75 hl rfl (ii_p1 e_x11) (by decide) rfl (fun ls hl => ?_)
      refine lv_goto (tgt := 26) hx hb d_T_takesFrom_78 rfl ?_
      exact ih _ _ _ _ _ _ _ _ hP (lv_sub hl [3, 4, 5, 6, 1, 0] rfl) hW
set_option maxHeartbeats 4000000 in
set_option maxRecDepth 100000 in
theorem c_T_takesFrom {l : Launch} {G : GG} (a1 : Int64) (a3 : Int32) (a5 : Int32) (z0 : St) (Q : Int32 → St → Prop) (hP : P_T_takesFrom a1 a3 a5 z0 Q) : Cti l y_T_takesFrom cc_T_takesFrom 9 (some .int) rm_T_takesFrom G [.ref (ha G 9), .long a1, .int a3, .ref (ha G 6), .int a5] z0 Q := by
  refine Cti.op (own := R_T) (by decide) rfl (Nat.le_of_ble_eq_true rfl) (fun p e s m args below meth c ls E hl hW => ?_)
  obtain ⟨hx, hb, hml, hown, hr, hlk, hex, hE⟩ := id E
  have hl : lv_has ls 9 [(0, .ref (ha G 9)), (1, .long a1), (3, .int a3), (4, .ref (ha G 6)), (5, .int a5)] := hl
  refine lv_aload_n hx hb d_T_takesFrom_0 rfl (lv_at hl 0 rfl) ?_
  refine ygf_9_0 hx hb hown hE hW (lk_T_51 hE) d_T_takesFrom_1 ?_
  refine ygn_1_3 hx hb hown hE hW (lk_T_87 hE) d_T_takesFrom_4 ?_
  refine lv_iload_n hx hb d_T_takesFrom_7 rfl (lv_at hl 2 rfl) ?_
  refine ya_5 hx hb hE hW hP.1 d_T_takesFrom_8 ?_
  have hP := hP.2
  refine lv_iload hx hb d_T_takesFrom_9 (lv_at hl 4 rfl) ?_
  refine lv_lload_n hx hb d_T_takesFrom_11 rfl (lv_at hl 1 rfl) ?_
  refine lv_bipush (v := 12) hx hb d_T_takesFrom_12 (by decide) ?_
  refine yc_i (yS (As := [.long a1, .int (12 : Int32)]) (rest := [.int a5, .int (z0.1 5 a3.toNatClampNeg)]) E (c_T_field _ _ _ _ hP) (cw_T_107 hE) (by decide) hW hl.1 rfl rfl rfl d_T_takesFrom_14) hW (fun x2 z1 H locs hP hW => ?_)
  refine lv_isub hx hb d_T_takesFrom_17 ?_
  refine ym_minI (rest := []) hx hb (hml.trans hl.1.symm) hown hE (lk_T_55 hE) (by decide) rfl d_T_takesFrom_18 ?_
  refine lv_topi (fun x3 e_x3 => ?_)
  have hP := hP x3 e_x3
  refine lv_istore (lv' := [(6, .int x3), (0, .ref (ha G 9)), (1, .long a1), (3, .int a3), (4, .ref (ha G 6)), (5, .int a5)]) hx hb d_T_takesFrom_21 hl (by decide) rfl (fun ls hl => ?_)
  refine lv_iconst (v := 0) hx hb d_T_takesFrom_23 (by decide) ?_
  refine lv_istore (lv' := [(7, .int (0 : Int32)), (6, .int x3), (0, .ref (ha G 9)), (1, .long a1), (3, .int a3), (4, .ref (ha G 6)), (5, .int a5)]) hx hb d_T_takesFrom_24 hl (by decide) rfl (fun ls hl => ?_)
  obtain ⟨n2, hP⟩ := hP
  refine wL_T_takesFrom_26 E n2 _ _ _ _ _ _ _ _ hP (lv_sub hl [2, 3, 4, 5, 1, 0] rfl) hW
theorem d_T_addLayer_0 : decode cc_T_addLayer 0 = .ok (.aload_n 0, 1) := by decide +kernel
theorem d_T_addLayer_1 : decode cc_T_addLayer 1 = .ok (.getfield 51, 3) := by decide +kernel
theorem d_T_addLayer_4 : decode cc_T_addLayer 4 = .ok (.getfield 94, 3) := by decide +kernel
theorem d_T_addLayer_7 : decode cc_T_addLayer 7 = .ok (.iload_n 1, 1) := by decide +kernel
theorem d_T_addLayer_8 : decode cc_T_addLayer 8 = .ok (.iaload, 1) := by decide +kernel
theorem d_T_addLayer_9 : decode cc_T_addLayer 9 = .ok (.invokestatic 97, 3) := by decide +kernel
theorem d_T_addLayer_12 : decode cc_T_addLayer 12 = .ok (.lstore 4, 2) := by decide +kernel
theorem d_T_addLayer_14 : decode cc_T_addLayer 14 = .ok (.aload_n 0, 1) := by decide +kernel
theorem d_T_addLayer_15 : decode cc_T_addLayer 15 = .ok (.getfield 40, 3) := by decide +kernel
theorem d_T_addLayer_18 : decode cc_T_addLayer 18 = .ok (.istore 6, 2) := by decide +kernel
theorem d_T_addLayer_20 : decode cc_T_addLayer 20 = .ok (.aload_n 0, 1) := by decide +kernel
theorem d_T_addLayer_21 : decode cc_T_addLayer 21 = .ok (.getfield 34, 3) := by decide +kernel
theorem d_T_addLayer_24 : decode cc_T_addLayer 24 = .ok (.iload_n 1, 1) := by decide +kernel
theorem d_T_addLayer_25 : decode cc_T_addLayer 25 = .ok (.iaload, 1) := by decide +kernel
theorem d_T_addLayer_26 : decode cc_T_addLayer 26 = .ok (.istore 7, 2) := by decide +kernel
theorem d_T_addLayer_28 : decode cc_T_addLayer 28 = .ok (.iload 7, 2) := by decide +kernel
theorem d_T_addLayer_30 : decode cc_T_addLayer 30 = .ok (.iload 6, 2) := by decide +kernel
theorem d_T_addLayer_32 : decode cc_T_addLayer 32 = .ok (.if_icmp .ge 131, 3) := by decide +kernel
theorem d_T_addLayer_35 : decode cc_T_addLayer 35 = .ok (.aload_n 0, 1) := by decide +kernel
theorem d_T_addLayer_36 : decode cc_T_addLayer 36 = .ok (.getfield 44, 3) := by decide +kernel
theorem d_T_addLayer_39 : decode cc_T_addLayer 39 = .ok (.ifCond .ne 124, 3) := by decide +kernel
theorem d_T_addLayer_42 : decode cc_T_addLayer 42 = .ok (.aload_n 0, 1) := by decide +kernel
theorem d_T_addLayer_43 : decode cc_T_addLayer 43 = .ok (.getfield 15, 3) := by decide +kernel
theorem d_T_addLayer_46 : decode cc_T_addLayer 46 = .ok (.iload 7, 2) := by decide +kernel
theorem d_T_addLayer_48 : decode cc_T_addLayer 48 = .ok (.aload_n 0, 1) := by decide +kernel
theorem d_T_addLayer_49 : decode cc_T_addLayer 49 = .ok (.aload_n 0, 1) := by decide +kernel
theorem d_T_addLayer_50 : decode cc_T_addLayer 50 = .ok (.getfield 11, 3) := by decide +kernel
theorem d_T_addLayer_53 : decode cc_T_addLayer 53 = .ok (.iload 7, 2) := by decide +kernel
theorem d_T_addLayer_55 : decode cc_T_addLayer 55 = .ok (.laload, 1) := by decide +kernel
theorem d_T_addLayer_56 : decode cc_T_addLayer 56 = .ok (.iload_n 1, 1) := by decide +kernel
theorem d_T_addLayer_57 : decode cc_T_addLayer 57 = .ok (.aload_n 2, 1) := by decide +kernel
theorem d_T_addLayer_58 : decode cc_T_addLayer 58 = .ok (.iload_n 3, 1) := by decide +kernel
theorem d_T_addLayer_59 : decode cc_T_addLayer 59 = .ok (.invokevirtual 101, 3) := by decide +kernel
theorem d_T_addLayer_62 : decode cc_T_addLayer 62 = .ok (.iastore, 1) := by decide +kernel
theorem d_T_addLayer_63 : decode cc_T_addLayer 63 = .ok (.aload_n 0, 1) := by decide +kernel
theorem d_T_addLayer_64 : decode cc_T_addLayer 64 = .ok (.aload_n 0, 1) := by decide +kernel
theorem d_T_addLayer_65 : decode cc_T_addLayer 65 = .ok (.getfield 11, 3) := by decide +kernel
theorem d_T_addLayer_68 : decode cc_T_addLayer 68 = .ok (.iload 7, 2) := by decide +kernel
theorem d_T_addLayer_70 : decode cc_T_addLayer 70 = .ok (.laload, 1) := by decide +kernel
theorem d_T_addLayer_71 : decode cc_T_addLayer 71 = .ok (.ldc2_w 105, 3) := by decide +kernel
theorem d_T_addLayer_74 : decode cc_T_addLayer 74 = .ok (.ladd, 1) := by decide +kernel
theorem d_T_addLayer_75 : decode cc_T_addLayer 75 = .ok (.invokevirtual 67, 3) := by decide +kernel
theorem d_T_addLayer_78 : decode cc_T_addLayer 78 = .ok (.istore 8, 2) := by decide +kernel
theorem d_T_addLayer_80 : decode cc_T_addLayer 80 = .ok (.aload_n 0, 1) := by decide +kernel
theorem d_T_addLayer_81 : decode cc_T_addLayer 81 = .ok (.getfield 19, 3) := by decide +kernel
theorem d_T_addLayer_84 : decode cc_T_addLayer 84 = .ok (.iload 7, 2) := by decide +kernel
theorem d_T_addLayer_86 : decode cc_T_addLayer 86 = .ok (.iload 8, 2) := by decide +kernel
theorem d_T_addLayer_88 : decode cc_T_addLayer 88 = .ok (.iastore, 1) := by decide +kernel
theorem d_T_addLayer_89 : decode cc_T_addLayer 89 = .ok (.iconst 1, 1) := by decide +kernel
theorem d_T_addLayer_90 : decode cc_T_addLayer 90 = .ok (.istore 9, 2) := by decide +kernel
theorem d_T_addLayer_92 : decode cc_T_addLayer 92 = .ok (.iload 9, 2) := by decide +kernel
theorem d_T_addLayer_94 : decode cc_T_addLayer 94 = .ok (.aload_n 0, 1) := by decide +kernel
theorem d_T_addLayer_95 : decode cc_T_addLayer 95 = .ok (.getfield 15, 3) := by decide +kernel
theorem d_T_addLayer_98 : decode cc_T_addLayer 98 = .ok (.iload 7, 2) := by decide +kernel
theorem d_T_addLayer_100 : decode cc_T_addLayer 100 = .ok (.iaload, 1) := by decide +kernel
theorem d_T_addLayer_101 : decode cc_T_addLayer 101 = .ok (.if_icmp .gt 56, 3) := by decide +kernel
theorem d_T_addLayer_104 : decode cc_T_addLayer 104 = .ok (.aload_n 0, 1) := by decide +kernel
theorem d_T_addLayer_105 : decode cc_T_addLayer 105 = .ok (.getfield 44, 3) := by decide +kernel
theorem d_T_addLayer_108 : decode cc_T_addLayer 108 = .ok (.ifCond .ne 49, 3) := by decide +kernel
theorem d_T_addLayer_111 : decode cc_T_addLayer 111 = .ok (.aload_n 0, 1) := by decide +kernel
theorem d_T_addLayer_112 : decode cc_T_addLayer 112 = .ok (.getfield 22, 3) := by decide +kernel
theorem d_T_addLayer_115 : decode cc_T_addLayer 115 = .ok (.iload 8, 2) := by decide +kernel
theorem d_T_addLayer_117 : decode cc_T_addLayer 117 = .ok (.iaload, 1) := by decide +kernel
theorem d_T_addLayer_118 : decode cc_T_addLayer 118 = .ok (.ifCond .ge 24, 3) := by decide +kernel
theorem d_T_addLayer_121 : decode cc_T_addLayer 121 = .ok (.aload_n 0, 1) := by decide +kernel
theorem d_T_addLayer_122 : decode cc_T_addLayer 122 = .ok (.getfield 22, 3) := by decide +kernel
theorem d_T_addLayer_125 : decode cc_T_addLayer 125 = .ok (.iload 8, 2) := by decide +kernel
theorem d_T_addLayer_127 : decode cc_T_addLayer 127 = .ok (.aload_n 0, 1) := by decide +kernel
theorem d_T_addLayer_128 : decode cc_T_addLayer 128 = .ok (.aload_n 0, 1) := by decide +kernel
theorem d_T_addLayer_129 : decode cc_T_addLayer 129 = .ok (.getfield 11, 3) := by decide +kernel
theorem d_T_addLayer_132 : decode cc_T_addLayer 132 = .ok (.iload 8, 2) := by decide +kernel
theorem d_T_addLayer_134 : decode cc_T_addLayer 134 = .ok (.laload, 1) := by decide +kernel
theorem d_T_addLayer_135 : decode cc_T_addLayer 135 = .ok (.lload 4, 2) := by decide +kernel
theorem d_T_addLayer_137 : decode cc_T_addLayer 137 = .ok (.ladd, 1) := by decide +kernel
theorem d_T_addLayer_138 : decode cc_T_addLayer 138 = .ok (.invokevirtual 67, 3) := by decide +kernel
theorem d_T_addLayer_141 : decode cc_T_addLayer 141 = .ok (.iastore, 1) := by decide +kernel
theorem d_T_addLayer_142 : decode cc_T_addLayer 142 = .ok (.aload_n 0, 1) := by decide +kernel
theorem d_T_addLayer_143 : decode cc_T_addLayer 143 = .ok (.getfield 22, 3) := by decide +kernel
theorem d_T_addLayer_146 : decode cc_T_addLayer 146 = .ok (.iload 8, 2) := by decide +kernel
theorem d_T_addLayer_148 : decode cc_T_addLayer 148 = .ok (.iaload, 1) := by decide +kernel
theorem d_T_addLayer_149 : decode cc_T_addLayer 149 = .ok (.istore 8, 2) := by decide +kernel
theorem d_T_addLayer_151 : decode cc_T_addLayer 151 = .ok (.iinc 9 1, 3) := by decide +kernel
theorem d_T_addLayer_154 : decode cc_T_addLayer 154 = .ok (.goto (-62), 3) := by decide +kernel
theorem d_T_addLayer_157 : decode cc_T_addLayer 157 = .ok (.iinc 7 1, 3) := by decide +kernel
theorem d_T_addLayer_160 : decode cc_T_addLayer 160 = .ok (.goto (-132), 3) := by decide +kernel
theorem d_T_addLayer_163 : decode cc_T_addLayer 163 = .ok (.return_, 1) := by decide +kernel
def L_T_addLayer_92 (K157 : Int32 → Int32 → Int64 → Int32 → Int32 → St → Prop) (Q : St → Prop) : Nat → Int32 → Int32 → Int64 → Int32 → Int32 → Int32 → Int32 → St → Prop
  | 0, _, _, _, _, _, _, _, _ => False
  | n + 1, v1, v3, v4, v6, v7, v8, v9, z0 => vp_in v7 1001 ∧ (((z0.1 11 v7.toNatClampNeg) < v9) → K157 v1 v3 v4 v6 v7 z0) ∧ ((¬ (z0.1 11 v7.toNatClampNeg) < v9) → ((¬ (z0.1 9 11) = 0) → K157 v1 v3 v4 v6 v7 z0) ∧ (((z0.1 9 11) = 0) → vp_in v8 1001 ∧ ((0 ≤ (z0.1 13 v8.toNatClampNeg)) → vp_in v8 1001 ∧ ∀ x11 : Int32, x11 = (z0.1 13 v8.toNatClampNeg) → ∀ x12 : Int32, x12 = v9 + 1 → L_T_addLayer_92 K157 Q n v1 v3 v4 v6 v7 x11 x12 z0) ∧ ((¬ 0 ≤ (z0.1 13 v8.toNatClampNeg)) → vp_in v8 1001 ∧ P_T_stateOf ((z0.2 10 v8.toNatClampNeg) + v4) z0 (fun (x14 : Int32) (z13 : St) => vp_in v8 1001 ∧ ∀ z15 : St, z15 = wI z13 13 v8.toNatClampNeg x14 → vp_in v8 1001 ∧ ∀ x16 : Int32, x16 = (z15.1 13 v8.toNatClampNeg) → ∀ x17 : Int32, x17 = v9 + 1 → L_T_addLayer_92 K157 Q n v1 v3 v4 v6 v7 x16 x17 z15))))
def L_T_addLayer_28 (Q : St → Prop) : Nat → Int32 → Int32 → Int64 → Int32 → Int32 → St → Prop
  | 0, _, _, _, _, _, _ => False
  | n + 1, v1, v3, v4, v6, v7, z0 => ((v6 ≤ v7) → Q z0) ∧ ((¬ v6 ≤ v7) → ((¬ (z0.1 9 11) = 0) → Q z0) ∧ (((z0.1 9 11) = 0) → vp_in v7 1001 ∧ P_T_takesFrom (z0.2 10 v7.toNatClampNeg) v1 v3 z0 (fun (x6 : Int32) (z5 : St) => vp_in v7 1001 ∧ ∀ z7 : St, z7 = wI z5 11 v7.toNatClampNeg x6 → vp_in v7 1001 ∧ P_T_stateOf ((z7.2 10 v7.toNatClampNeg) + (4503599627370496 : Int64)) z7 (fun (x9 : Int32) (z8 : St) => vp_in v7 1001 ∧ ∀ z10 : St, z10 = wI z8 12 v7.toNatClampNeg x9 → ∃ k92 : Nat, L_T_addLayer_92 (fun (x18 : Int32) (x19 : Int32) (x20 : Int64) (x21 : Int32) (x22 : Int32) (z23 : St) => ∀ x24 : Int32, x24 = x22 + 1 → L_T_addLayer_28 Q n x18 x19 x20 x21 x24 z23) Q k92 v1 v3 v4 v6 v7 x9 (1 : Int32) z10))))
def P_T_addLayer (a1 : Int32) (a3 : Int32) (z0 : St) (Q : St → Prop) : Prop := vp_in a1 16 ∧ P_T_oneMoreOf (z0.1 4 a1.toNatClampNeg) z0 (fun (x2 : Int64) (z1 : St) => ∀ x3 : Int32, x3 = (z1.1 9 10) → vp_in a1 17 ∧ ∀ x4 : Int32, x4 = (z1.1 17 a1.toNatClampNeg) → ∃ k28 : Nat, L_T_addLayer_28 Q k28 a1 a3 x2 x3 x4 z1)
set_option maxHeartbeats 4000000 in
set_option maxRecDepth 100000 in
theorem wL_T_addLayer_92 {K157 : Int32 → Int32 → Int64 → Int32 → Int32 → St → Prop} {Q : St → Prop} (E : En p l s m meth c args cc_T_addLayer 10 R_T none G)
    (hK157 : ∀ (v1 : Int32) (v3 : Int32) (v4 : Int64) (v6 : Int32) (v7 : Int32) (z0 : St) (ls : Array Slot) (H : Heap) (locs : List Loc), K157 v1 v3 v4 v6 v7 z0 → lv_has ls 10 [(0, .ref (ha G 9)), (1, .int v1), (2, .ref (ha G 6)), (3, .int v3), (4, .long v4), (6, .int v6), (7, .int v7)] → Wd G z0 s.heap H locs → W p l e rm_T_addLayer s m args below meth c H locs 0 0 (MQ below (QvR Q G) args s 0 0 (fr G)) (F0 m 157 ls [])) :
    ∀ (n : Nat) (v1 : Int32) (v3 : Int32) (v4 : Int64) (v6 : Int32) (v7 : Int32) (v8 : Int32) (v9 : Int32) (z0 : St) (ls : Array Slot) (H : Heap) (locs : List Loc), L_T_addLayer_92 K157 Q n v1 v3 v4 v6 v7 v8 v9 z0 → lv_has ls 10 [(0, .ref (ha G 9)), (1, .int v1), (2, .ref (ha G 6)), (3, .int v3), (4, .long v4), (6, .int v6), (7, .int v7), (8, .int v8), (9, .int v9)] → Wd G z0 s.heap H locs → W p l e rm_T_addLayer s m args below meth c H locs 0 0 (MQ below (QvR Q G) args s 0 0 (fr G)) (F0 m 92 ls []) := by
  obtain ⟨hx, hb, hml, hown, hr, hlk, hex, hE⟩ := id E
  intro n
  induction n with
  | zero => exact fun _ _ _ _ _ _ _ _ _ _ _ hP _ _ => hP.elim
  | succ n ih =>
    intro v1 v3 v4 v6 v7 v8 v9 z0 ls H locs hP hl hW
    refine lv_iload hx hb d_T_addLayer_92 (lv_at hl 8 rfl) ?_
    refine lv_aload_n hx hb d_T_addLayer_94 rfl (lv_at hl 0 rfl) ?_
    refine ygf_9_2 hx hb hown hE hW (lk_T_15 hE) d_T_addLayer_95 ?_
    refine lv_iload hx hb d_T_addLayer_98 (lv_at hl 6 rfl) ?_
    refine ya_11 hx hb hE hW hP.1 d_T_addLayer_100 ?_
    have hP := hP.2
    refine lv_icmp_gt (tgt := 157) hx hb d_T_addLayer_101 rfl (fun hc => ?_) (fun hc => ?_)
    · have hP := hP.1 hc
      exact hK157 _ _ _ _ _ _ _ _ _ hP (lv_sub hl [0, 1, 2, 3, 4, 5, 6] rfl) hW
    · have hP := hP.2 hc
      refine lv_aload_n hx hb d_T_addLayer_104 rfl (lv_at hl 0 rfl) ?_
      refine ygf_9_11 hx hb hown hE hW (lk_T_44 hE) d_T_addLayer_105 ?_
      refine lv_if_ne (tgt := 157) hx hb d_T_addLayer_108 rfl (fun hc => ?_) (fun hc => ?_)
      · have hP := hP.1 hc
        exact hK157 _ _ _ _ _ _ _ _ _ hP (lv_sub hl [0, 1, 2, 3, 4, 5, 6] rfl) hW
      · have hP := hP.2 hc
        refine lv_aload_n hx hb d_T_addLayer_111 rfl (lv_at hl 0 rfl) ?_
        refine ygf_9_4 hx hb hown hE hW (lk_T_22 hE) d_T_addLayer_112 ?_
        refine lv_iload hx hb d_T_addLayer_115 (lv_at hl 7 rfl) ?_
        refine ya_13 hx hb hE hW hP.1 d_T_addLayer_117 ?_
        have hP := hP.2
        refine lv_if_ge (tgt := 142) hx hb d_T_addLayer_118 rfl (fun hc => ?_) (fun hc => ?_)
        · have hP := hP.1 hc
          refine lv_aload_n hx hb d_T_addLayer_142 rfl (lv_at hl 0 rfl) ?_
          refine ygf_9_4 hx hb hown hE hW (lk_T_22 hE) d_T_addLayer_143 ?_
          refine lv_iload hx hb d_T_addLayer_146 (lv_at hl 7 rfl) ?_
          refine ya_13 hx hb hE hW hP.1 d_T_addLayer_148 ?_
          have hP := hP.2
          refine lv_topi (fun x11 e_x11 => ?_)
          have hP := hP x11 e_x11
          refine lv_istore (lv' := [(8, .int x11), (0, .ref (ha G 9)), (1, .int v1), (2, .ref (ha G 6)), (3, .int v3), (4, .long v4), (6, .int v6), (7, .int v7), (9, .int v9)]) hx hb d_T_addLayer_149 hl (by decide) rfl (fun ls hl => ?_)
          obtain ⟨x12, e_x12⟩ : ∃ z : Int32, z = v9 + 1 := ⟨_, rfl⟩
          have hP := hP x12 e_x12
          refine lv_iinc (k := 8) (lv' := [(9, .int x12), (8, .int x11), (0, .ref (ha G 9)), (1, .int v1), (2, .ref (ha G 6)), (3, .int v3), (4, .long v4), (6, .int v6), (7, .int v7)]) hx hb d_T_addLayer_151 hl rfl (ii_p1 e_x12) (by decide) rfl (fun ls hl => ?_)
          refine lv_goto (tgt := 92) hx hb d_T_addLayer_154 rfl ?_
          exact ih _ _ _ _ _ _ _ _ _ _ _ hP (lv_sub hl [2, 3, 4, 5, 6, 7, 8, 1, 0] rfl) hW
        · have hP := hP.2 hc
          refine lv_aload_n hx hb d_T_addLayer_121 rfl (lv_at hl 0 rfl) ?_
          refine ygf_9_4 hx hb hown hE hW (lk_T_22 hE) d_T_addLayer_122 ?_
          refine lv_iload hx hb d_T_addLayer_125 (lv_at hl 7 rfl) ?_
          refine lv_aload_n hx hb d_T_addLayer_127 rfl (lv_at hl 0 rfl) ?_
          refine lv_aload_n hx hb d_T_addLayer_128 rfl (lv_at hl 0 rfl) ?_
          refine ygf_9_1 hx hb hown hE hW (lk_T_11 hE) d_T_addLayer_129 ?_
          refine lv_iload hx hb d_T_addLayer_132 (lv_at hl 7 rfl) ?_
          refine ya_10 hx hb hE hW hP.1 d_T_addLayer_134 ?_
          have hP := hP.2
          refine lv_lload hx hb d_T_addLayer_135 (lv_at hl 4 rfl) ?_
          refine lv_ladd hx hb d_T_addLayer_137 ?_
          refine yc_i (yV (As := [.long ((z0.2 10 v8.toNatClampNeg) + v4)]) (rest := [.int v8, .ref (ha G 13)]) E (c_T_stateOf _ _ _ hP) (cw_T_67 hE) (yrv_9 hE hW) (by decide) hW hl.1 rfl rfl rfl d_T_addLayer_138) hW (fun x14 z13 H locs hP hW => ?_)
          refine ys_13 hx hb hE hW hP.1 d_T_addLayer_141 (fun z15 H locs e_z15 hW => ?_)
          have hP := hP.2
          have hP := hP z15 e_z15
          refine lv_aload_n hx hb d_T_addLayer_142 rfl (lv_at hl 0 rfl) ?_
          refine ygf_9_4 hx hb hown hE hW (lk_T_22 hE) d_T_addLayer_143 ?_
          refine lv_iload hx hb d_T_addLayer_146 (lv_at hl 7 rfl) ?_
          refine ya_13 hx hb hE hW hP.1 d_T_addLayer_148 ?_
          have hP := hP.2
          refine lv_topi (fun x16 e_x16 => ?_)
          have hP := hP x16 e_x16
          refine lv_istore (lv' := [(8, .int x16), (0, .ref (ha G 9)), (1, .int v1), (2, .ref (ha G 6)), (3, .int v3), (4, .long v4), (6, .int v6), (7, .int v7), (9, .int v9)]) hx hb d_T_addLayer_149 hl (by decide) rfl (fun ls hl => ?_)
          obtain ⟨x17, e_x17⟩ : ∃ z : Int32, z = v9 + 1 := ⟨_, rfl⟩
          have hP := hP x17 e_x17
          refine lv_iinc (k := 8) (lv' := [(9, .int x17), (8, .int x16), (0, .ref (ha G 9)), (1, .int v1), (2, .ref (ha G 6)), (3, .int v3), (4, .long v4), (6, .int v6), (7, .int v7)]) hx hb d_T_addLayer_151 hl rfl (ii_p1 e_x17) (by decide) rfl (fun ls hl => ?_)
          refine lv_goto (tgt := 92) hx hb d_T_addLayer_154 rfl ?_
          exact ih _ _ _ _ _ _ _ _ _ _ _ hP (lv_sub hl [2, 3, 4, 5, 6, 7, 8, 1, 0] rfl) hW
set_option maxHeartbeats 4000000 in
set_option maxRecDepth 100000 in
theorem wL_T_addLayer_28 {Q : St → Prop} (E : En p l s m meth c args cc_T_addLayer 10 R_T none G) :
    ∀ (n : Nat) (v1 : Int32) (v3 : Int32) (v4 : Int64) (v6 : Int32) (v7 : Int32) (z0 : St) (ls : Array Slot) (H : Heap) (locs : List Loc), L_T_addLayer_28 Q n v1 v3 v4 v6 v7 z0 → lv_has ls 10 [(0, .ref (ha G 9)), (1, .int v1), (2, .ref (ha G 6)), (3, .int v3), (4, .long v4), (6, .int v6), (7, .int v7)] → Wd G z0 s.heap H locs → W p l e rm_T_addLayer s m args below meth c H locs 0 0 (MQ below (QvR Q G) args s 0 0 (fr G)) (F0 m 28 ls []) := by
  obtain ⟨hx, hb, hml, hown, hr, hlk, hex, hE⟩ := id E
  intro n
  induction n with
  | zero => exact fun _ _ _ _ _ _ _ _ _ hP _ _ => hP.elim
  | succ n ih =>
    intro v1 v3 v4 v6 v7 z0 ls H locs hP hl hW
    refine lv_iload hx hb d_T_addLayer_28 (lv_at hl 6 rfl) ?_
    refine lv_iload hx hb d_T_addLayer_30 (lv_at hl 5 rfl) ?_
    refine lv_icmp_ge (tgt := 163) hx hb d_T_addLayer_32 rfl (fun hc => ?_) (fun hc => ?_)
    · have hP := hP.1 hc
      exact yr_v hx hb hr hlk hW hP d_T_addLayer_163
    · have hP := hP.2 hc
      refine lv_aload_n hx hb d_T_addLayer_35 rfl (lv_at hl 0 rfl) ?_
      refine ygf_9_11 hx hb hown hE hW (lk_T_44 hE) d_T_addLayer_36 ?_
      refine lv_if_ne (tgt := 163) hx hb d_T_addLayer_39 rfl (fun hc => ?_) (fun hc => ?_)
      · have hP := hP.1 hc
        exact yr_v hx hb hr hlk hW hP d_T_addLayer_163
      · have hP := hP.2 hc
        refine lv_aload_n hx hb d_T_addLayer_42 rfl (lv_at hl 0 rfl) ?_
        refine ygf_9_2 hx hb hown hE hW (lk_T_15 hE) d_T_addLayer_43 ?_
        refine lv_iload hx hb d_T_addLayer_46 (lv_at hl 6 rfl) ?_
        refine lv_aload_n hx hb d_T_addLayer_48 rfl (lv_at hl 0 rfl) ?_
        refine lv_aload_n hx hb d_T_addLayer_49 rfl (lv_at hl 0 rfl) ?_
        refine ygf_9_1 hx hb hown hE hW (lk_T_11 hE) d_T_addLayer_50 ?_
        refine lv_iload hx hb d_T_addLayer_53 (lv_at hl 6 rfl) ?_
        refine ya_10 hx hb hE hW hP.1 d_T_addLayer_55 ?_
        have hP := hP.2
        refine lv_iload_n hx hb d_T_addLayer_56 rfl (lv_at hl 1 rfl) ?_
        refine lv_aload_n hx hb d_T_addLayer_57 rfl (lv_at hl 2 rfl) ?_
        refine lv_iload_n hx hb d_T_addLayer_58 rfl (lv_at hl 3 rfl) ?_
        refine yc_i (yV (As := [.long (z0.2 10 v7.toNatClampNeg), .int v1, .ref (ha G 6), .int v3]) (rest := [.int v7, .ref (ha G 11)]) E (c_T_takesFrom _ _ _ _ _ hP) (cw_T_101 hE) (yrv_9 hE hW) (by decide) hW hl.1 rfl rfl rfl d_T_addLayer_59) hW (fun x6 z5 H locs hP hW => ?_)
        refine ys_11 hx hb hE hW hP.1 d_T_addLayer_62 (fun z7 H locs e_z7 hW => ?_)
        have hP := hP.2
        have hP := hP z7 e_z7
        refine lv_aload_n hx hb d_T_addLayer_63 rfl (lv_at hl 0 rfl) ?_
        refine lv_aload_n hx hb d_T_addLayer_64 rfl (lv_at hl 0 rfl) ?_
        refine ygf_9_1 hx hb hown hE hW (lk_T_11 hE) d_T_addLayer_65 ?_
        refine lv_iload hx hb d_T_addLayer_68 (lv_at hl 6 rfl) ?_
        refine ya_10 hx hb hE hW hP.1 d_T_addLayer_70 ?_
        have hP := hP.2
        refine lv_ldc2 (v := 4503599627370496) hx hb hown (lk_T_105 hE) d_T_addLayer_71 ?_
        refine lv_ladd hx hb d_T_addLayer_74 ?_
        refine yc_i (yV (As := [.long ((z7.2 10 v7.toNatClampNeg) + (4503599627370496 : Int64))]) (rest := []) E (c_T_stateOf _ _ _ hP) (cw_T_67 hE) (yrv_9 hE hW) (by decide) hW hl.1 rfl rfl rfl d_T_addLayer_75) hW (fun x9 z8 H locs hP hW => ?_)
        refine lv_istore (lv' := [(8, .int x9), (0, .ref (ha G 9)), (1, .int v1), (2, .ref (ha G 6)), (3, .int v3), (4, .long v4), (6, .int v6), (7, .int v7)]) hx hb d_T_addLayer_78 hl (by decide) rfl (fun ls hl => ?_)
        refine lv_aload_n hx hb d_T_addLayer_80 rfl (lv_at hl 1 rfl) ?_
        refine ygf_9_3 hx hb hown hE hW (lk_T_19 hE) d_T_addLayer_81 ?_
        refine lv_iload hx hb d_T_addLayer_84 (lv_at hl 7 rfl) ?_
        refine lv_iload hx hb d_T_addLayer_86 (lv_at hl 0 rfl) ?_
        refine ys_12 hx hb hE hW hP.1 d_T_addLayer_88 (fun z10 H locs e_z10 hW => ?_)
        have hP := hP.2
        have hP := hP z10 e_z10
        refine lv_iconst (v := 1) hx hb d_T_addLayer_89 (by decide) ?_
        refine lv_istore (lv' := [(9, .int (1 : Int32)), (8, .int x9), (0, .ref (ha G 9)), (1, .int v1), (2, .ref (ha G 6)), (3, .int v3), (4, .long v4), (6, .int v6), (7, .int v7)]) hx hb d_T_addLayer_90 hl (by decide) rfl (fun ls hl => ?_)
        obtain ⟨n2, hP⟩ := hP
        refine wL_T_addLayer_92 E ?_ n2 _ _ _ _ _ _ _ _ _ _ _ hP (lv_sub hl [2, 3, 4, 5, 6, 7, 8, 1, 0] rfl) hW
        · intro x18 x19 x20 x21 x22 z23 ls H locs hP hl hW
          obtain ⟨x24, e_x24⟩ : ∃ z : Int32, z = x22 + 1 := ⟨_, rfl⟩
          have hP := hP x24 e_x24
          refine lv_iinc (k := 6) (lv' := [(7, .int x24), (0, .ref (ha G 9)), (1, .int x18), (2, .ref (ha G 6)), (3, .int x19), (4, .long x20), (6, .int x21)]) hx hb d_T_addLayer_157 hl rfl (ii_p1 e_x24) (by decide) rfl (fun ls hl => ?_)
          refine lv_goto (tgt := 28) hx hb d_T_addLayer_160 rfl ?_
          exact ih _ _ _ _ _ _ _ _ _ hP (lv_sub hl [1, 2, 3, 4, 5, 6, 0] rfl) hW
set_option maxHeartbeats 4000000 in
set_option maxRecDepth 100000 in
theorem c_T_addLayer {l : Launch} {G : GG} (a1 : Int32) (a3 : Int32) (z0 : St) (Q : St → Prop) (hP : P_T_addLayer a1 a3 z0 Q) : Ctv l y_T_addLayer cc_T_addLayer 10 none rm_T_addLayer G [.ref (ha G 9), .int a1, .ref (ha G 6), .int a3] z0 Q := by
  refine Ctv.op (own := R_T) (by decide) rfl (Nat.le_of_ble_eq_true rfl) (fun p e s m args below meth c ls E hl hW => ?_)
  obtain ⟨hx, hb, hml, hown, hr, hlk, hex, hE⟩ := id E
  have hl : lv_has ls 10 [(0, .ref (ha G 9)), (1, .int a1), (2, .ref (ha G 6)), (3, .int a3)] := hl
  refine lv_aload_n hx hb d_T_addLayer_0 rfl (lv_at hl 0 rfl) ?_
  refine ygf_9_0 hx hb hown hE hW (lk_T_51 hE) d_T_addLayer_1 ?_
  refine ygn_1_2 hx hb hown hE hW (lk_T_94 hE) d_T_addLayer_4 ?_
  refine lv_iload_n hx hb d_T_addLayer_7 rfl (lv_at hl 1 rfl) ?_
  refine ya_4 hx hb hE hW hP.1 d_T_addLayer_8 ?_
  have hP := hP.2
  refine yc_l (yS (As := [.int (z0.1 4 a1.toNatClampNeg)]) (rest := []) E (c_T_oneMoreOf _ _ _ hP) (cw_T_97 hE) (by decide) hW hl.1 rfl rfl rfl d_T_addLayer_9) hW (fun x2 z1 H locs hP hW => ?_)
  refine lv_lstore (lv' := [(4, .long x2), (0, .ref (ha G 9)), (1, .int a1), (2, .ref (ha G 6)), (3, .int a3)]) hx hb d_T_addLayer_12 hl (by decide) rfl (fun ls hl => ?_)
  refine lv_aload_n hx hb d_T_addLayer_14 rfl (lv_at hl 1 rfl) ?_
  refine ygf_9_10 hx hb hown hE hW (lk_T_40 hE) d_T_addLayer_15 ?_
  refine lv_topi (fun x3 e_x3 => ?_)
  have hP := hP x3 e_x3
  refine lv_istore (lv' := [(6, .int x3), (4, .long x2), (0, .ref (ha G 9)), (1, .int a1), (2, .ref (ha G 6)), (3, .int a3)]) hx hb d_T_addLayer_18 hl (by decide) rfl (fun ls hl => ?_)
  refine lv_aload_n hx hb d_T_addLayer_20 rfl (lv_at hl 2 rfl) ?_
  refine ygf_9_8 hx hb hown hE hW (lk_T_34 hE) d_T_addLayer_21 ?_
  refine lv_iload_n hx hb d_T_addLayer_24 rfl (lv_at hl 3 rfl) ?_
  refine ya_17 hx hb hE hW hP.1 d_T_addLayer_25 ?_
  have hP := hP.2
  refine lv_topi (fun x4 e_x4 => ?_)
  have hP := hP x4 e_x4
  refine lv_istore (lv' := [(7, .int x4), (6, .int x3), (4, .long x2), (0, .ref (ha G 9)), (1, .int a1), (2, .ref (ha G 6)), (3, .int a3)]) hx hb d_T_addLayer_26 hl (by decide) rfl (fun ls hl => ?_)
  obtain ⟨n2, hP⟩ := hP
  refine wL_T_addLayer_28 E n2 _ _ _ _ _ _ _ _ _ hP (lv_sub hl [3, 4, 5, 6, 2, 1, 0] rfl) hW
theorem d_T_isPanel_0 : decode cc_T_isPanel 0 = .ok (.lload_n 1, 1) := by decide +kernel
theorem d_T_isPanel_1 : decode cc_T_isPanel 1 = .ok (.bipush 12, 2) := by decide +kernel
theorem d_T_isPanel_3 : decode cc_T_isPanel 3 = .ok (.invokestatic 107, 3) := by decide +kernel
theorem d_T_isPanel_6 : decode cc_T_isPanel 6 = .ok (.iload 4, 2) := by decide +kernel
theorem d_T_isPanel_8 : decode cc_T_isPanel 8 = .ok (.if_icmp .ne 7, 3) := by decide +kernel
theorem d_T_isPanel_11 : decode cc_T_isPanel 11 = .ok (.iconst 1, 1) := by decide +kernel
theorem d_T_isPanel_12 : decode cc_T_isPanel 12 = .ok (.goto 4, 3) := by decide +kernel
theorem d_T_isPanel_15 : decode cc_T_isPanel 15 = .ok (.iconst 0, 1) := by decide +kernel
theorem d_T_isPanel_16 : decode cc_T_isPanel 16 = .ok (.istore 5, 2) := by decide +kernel
theorem d_T_isPanel_18 : decode cc_T_isPanel 18 = .ok (.iconst 0, 1) := by decide +kernel
theorem d_T_isPanel_19 : decode cc_T_isPanel 19 = .ok (.istore 6, 2) := by decide +kernel
theorem d_T_isPanel_21 : decode cc_T_isPanel 21 = .ok (.iload 6, 2) := by decide +kernel
theorem d_T_isPanel_23 : decode cc_T_isPanel 23 = .ok (.iconst 3, 1) := by decide +kernel
theorem d_T_isPanel_24 : decode cc_T_isPanel 24 = .ok (.if_icmp .ge 70, 3) := by decide +kernel
theorem d_T_isPanel_27 : decode cc_T_isPanel 27 = .ok (.iconst 0, 1) := by decide +kernel
theorem d_T_isPanel_28 : decode cc_T_isPanel 28 = .ok (.istore 7, 2) := by decide +kernel
theorem d_T_isPanel_30 : decode cc_T_isPanel 30 = .ok (.iload 7, 2) := by decide +kernel
theorem d_T_isPanel_32 : decode cc_T_isPanel 32 = .ok (.aload_n 0, 1) := by decide +kernel
theorem d_T_isPanel_33 : decode cc_T_isPanel 33 = .ok (.getfield 51, 3) := by decide +kernel
theorem d_T_isPanel_36 : decode cc_T_isPanel 36 = .ok (.getfield 136, 3) := by decide +kernel
theorem d_T_isPanel_39 : decode cc_T_isPanel 39 = .ok (.iload 6, 2) := by decide +kernel
theorem d_T_isPanel_41 : decode cc_T_isPanel 41 = .ok (.iaload, 1) := by decide +kernel
theorem d_T_isPanel_42 : decode cc_T_isPanel 42 = .ok (.if_icmp .ge 46, 3) := by decide +kernel
theorem d_T_isPanel_45 : decode cc_T_isPanel 45 = .ok (.iload 6, 2) := by decide +kernel
theorem d_T_isPanel_47 : decode cc_T_isPanel 47 = .ok (.iload 7, 2) := by decide +kernel
theorem d_T_isPanel_49 : decode cc_T_isPanel 49 = .ok (.invokestatic 114, 3) := by decide +kernel
theorem d_T_isPanel_52 : decode cc_T_isPanel 52 = .ok (.istore 8, 2) := by decide +kernel
theorem d_T_isPanel_54 : decode cc_T_isPanel 54 = .ok (.iload 5, 2) := by decide +kernel
theorem d_T_isPanel_56 : decode cc_T_isPanel 56 = .ok (.ifCond .eq 23, 3) := by decide +kernel
theorem d_T_isPanel_59 : decode cc_T_isPanel 59 = .ok (.lload_n 1, 1) := by decide +kernel
theorem d_T_isPanel_60 : decode cc_T_isPanel 60 = .ok (.iload 8, 2) := by decide +kernel
theorem d_T_isPanel_62 : decode cc_T_isPanel 62 = .ok (.invokestatic 107, 3) := by decide +kernel
theorem d_T_isPanel_65 : decode cc_T_isPanel 65 = .ok (.aload_n 3, 1) := by decide +kernel
theorem d_T_isPanel_66 : decode cc_T_isPanel 66 = .ok (.getfield 139, 3) := by decide +kernel
theorem d_T_isPanel_69 : decode cc_T_isPanel 69 = .ok (.iload 8, 2) := by decide +kernel
theorem d_T_isPanel_71 : decode cc_T_isPanel 71 = .ok (.iaload, 1) := by decide +kernel
theorem d_T_isPanel_72 : decode cc_T_isPanel 72 = .ok (.if_icmp .lt 7, 3) := by decide +kernel
theorem d_T_isPanel_75 : decode cc_T_isPanel 75 = .ok (.iconst 1, 1) := by decide +kernel
theorem d_T_isPanel_76 : decode cc_T_isPanel 76 = .ok (.goto 4, 3) := by decide +kernel
theorem d_T_isPanel_79 : decode cc_T_isPanel 79 = .ok (.iconst 0, 1) := by decide +kernel
theorem d_T_isPanel_80 : decode cc_T_isPanel 80 = .ok (.istore 5, 2) := by decide +kernel
theorem d_T_isPanel_82 : decode cc_T_isPanel 82 = .ok (.iinc 7 1, 3) := by decide +kernel
theorem d_T_isPanel_85 : decode cc_T_isPanel 85 = .ok (.goto (-55), 3) := by decide +kernel
theorem d_T_isPanel_88 : decode cc_T_isPanel 88 = .ok (.iinc 6 1, 3) := by decide +kernel
theorem d_T_isPanel_91 : decode cc_T_isPanel 91 = .ok (.goto (-70), 3) := by decide +kernel
theorem d_T_isPanel_94 : decode cc_T_isPanel 94 = .ok (.iload 5, 2) := by decide +kernel
theorem d_T_isPanel_96 : decode cc_T_isPanel 96 = .ok (.ireturn, 1) := by decide +kernel
def J_T_isPanel_79 (K30 : Int64 → Int32 → Int32 → Int32 → St → Prop) (K88 : Int64 → Int32 → Int32 → St → Prop) (Q : Int32 → St → Prop) (v1 : Int64) (v6 : Int32) (v7 : Int32) (z0 : St) : Prop := ∀ x5 : Int32, x5 = v7 + 1 → K30 v1 (0 : Int32) v6 x5 z0
def L_T_isPanel_30 (K88 : Int64 → Int32 → Int32 → St → Prop) (Q : Int32 → St → Prop) : Nat → Int64 → Int32 → Int32 → Int32 → St → Prop
  | 0, _, _, _, _, _ => False
  | n + 1, v1, v5, v6, v7, z0 => vp_in v6 3 ∧ (((z0.1 2 v6.toNatClampNeg) ≤ v7) → K88 v1 v5 v6 z0) ∧ ((¬ (z0.1 2 v6.toNatClampNeg) ≤ v7) → P_O_quotaOf v6 v7 z0 (fun (x4 : Int32) (z3 : St) => ((v5 = 0) → J_T_isPanel_79 (L_T_isPanel_30 K88 Q n) K88 Q v1 v6 v7 z3) ∧ ((¬ v5 = 0) → P_T_field v1 x4 z3 (fun (x7 : Int32) (z6 : St) => vp_in x4 12 ∧ ((x7 < (z6.1 7 x4.toNatClampNeg)) → J_T_isPanel_79 (L_T_isPanel_30 K88 Q n) K88 Q v1 v6 v7 z6) ∧ ((¬ x7 < (z6.1 7 x4.toNatClampNeg)) → ∀ x8 : Int32, x8 = v7 + 1 → L_T_isPanel_30 K88 Q n v1 (1 : Int32) v6 x8 z6)))))
def L_T_isPanel_21 (Q : Int32 → St → Prop) : Nat → Int64 → Int32 → Int32 → St → Prop
  | 0, _, _, _, _ => False
  | n + 1, v1, v5, v6, z0 => (((3 : Int32) ≤ v6) → zb v5 ∧ Q v5 z0) ∧ ((¬ (3 : Int32) ≤ v6) → ∃ k30 : Nat, L_T_isPanel_30 (fun (x9 : Int64) (x10 : Int32) (x11 : Int32) (z12 : St) => ∀ x13 : Int32, x13 = x11 + 1 → L_T_isPanel_21 Q n x9 x10 x13 z12) Q k30 v1 v5 v6 (0 : Int32) z0)
def P_T_isPanel (a1 : Int64) (a4 : Int32) (z0 : St) (Q : Int32 → St → Prop) : Prop := P_T_field a1 (12 : Int32) z0 (fun (x2 : Int32) (z1 : St) => ((¬ x2 = a4) → ∃ k21 : Nat, L_T_isPanel_21 Q k21 a1 (0 : Int32) (0 : Int32) z1) ∧ ((x2 = a4) → ∃ k21 : Nat, L_T_isPanel_21 Q k21 a1 (1 : Int32) (0 : Int32) z1))
set_option maxHeartbeats 4000000 in
set_option maxRecDepth 100000 in
theorem wJ_T_isPanel_79 {K30 : Int64 → Int32 → Int32 → Int32 → St → Prop} {K88 : Int64 → Int32 → Int32 → St → Prop} {Q : Int32 → St → Prop} (E : En p l s m meth c args cc_T_isPanel 9 R_T (some .boolean) G)
    (hK30 : ∀ (v1 : Int64) (v5 : Int32) (v6 : Int32) (v7 : Int32) (z0 : St) (ls : Array Slot) (H : Heap) (locs : List Loc), K30 v1 v5 v6 v7 z0 → lv_has ls 9 [(0, .ref (ha G 9)), (1, .long v1), (3, .ref (ha G 6)), (5, .int v5), (6, .int v6), (7, .int v7)] → Wd G z0 s.heap H locs → W p l e rm_T_isPanel s m args below meth c H locs 0 0 (MQ below (QiR Q G) args s 0 0 (fr G)) (F0 m 30 ls []))
    (hK88 : ∀ (v1 : Int64) (v5 : Int32) (v6 : Int32) (z0 : St) (ls : Array Slot) (H : Heap) (locs : List Loc), K88 v1 v5 v6 z0 → lv_has ls 9 [(0, .ref (ha G 9)), (1, .long v1), (3, .ref (ha G 6)), (5, .int v5), (6, .int v6)] → Wd G z0 s.heap H locs → W p l e rm_T_isPanel s m args below meth c H locs 0 0 (MQ below (QiR Q G) args s 0 0 (fr G)) (F0 m 88 ls []))
    (v1 : Int64) (v6 : Int32) (v7 : Int32) (z0 : St) (ls : Array Slot) (H : Heap) (locs : List Loc) (hP : J_T_isPanel_79 K30 K88 Q v1 v6 v7 z0) (hl : lv_has ls 9 [(0, .ref (ha G 9)), (1, .long v1), (3, .ref (ha G 6)), (6, .int v6), (7, .int v7)]) (hW : Wd G z0 s.heap H locs) : W p l e rm_T_isPanel s m args below meth c H locs 0 0 (MQ below (QiR Q G) args s 0 0 (fr G)) (F0 m 79 ls []) := by
  obtain ⟨hx, hb, hml, hown, hr, hlk, hex, hE⟩ := id E
  refine lv_iconst (v := 0) hx hb d_T_isPanel_79 (by decide) ?_
  refine lv_istore (lv' := [(5, .int (0 : Int32)), (0, .ref (ha G 9)), (1, .long v1), (3, .ref (ha G 6)), (6, .int v6), (7, .int v7)]) hx hb d_T_isPanel_80 hl (by decide) rfl (fun ls hl => ?_)
  obtain ⟨x5, e_x5⟩ : ∃ z : Int32, z = v7 + 1 := ⟨_, rfl⟩
  have hP := hP x5 e_x5
  refine lv_iinc (k := 5) (lv' := [(7, .int x5), (5, .int (0 : Int32)), (0, .ref (ha G 9)), (1, .long v1), (3, .ref (ha G 6)), (6, .int v6)]) hx hb d_T_isPanel_82 hl rfl (ii_p1 e_x5) (by decide) rfl (fun ls hl => ?_)
  refine lv_goto (tgt := 30) hx hb d_T_isPanel_85 rfl ?_
  exact hK30 _ _ _ _ _ _ _ _ hP (lv_sub hl [2, 3, 4, 1, 5, 0] rfl) hW
set_option maxHeartbeats 4000000 in
set_option maxRecDepth 100000 in
theorem wL_T_isPanel_30 {K88 : Int64 → Int32 → Int32 → St → Prop} {Q : Int32 → St → Prop} (E : En p l s m meth c args cc_T_isPanel 9 R_T (some .boolean) G)
    (hK88 : ∀ (v1 : Int64) (v5 : Int32) (v6 : Int32) (z0 : St) (ls : Array Slot) (H : Heap) (locs : List Loc), K88 v1 v5 v6 z0 → lv_has ls 9 [(0, .ref (ha G 9)), (1, .long v1), (3, .ref (ha G 6)), (5, .int v5), (6, .int v6)] → Wd G z0 s.heap H locs → W p l e rm_T_isPanel s m args below meth c H locs 0 0 (MQ below (QiR Q G) args s 0 0 (fr G)) (F0 m 88 ls [])) :
    ∀ (n : Nat) (v1 : Int64) (v5 : Int32) (v6 : Int32) (v7 : Int32) (z0 : St) (ls : Array Slot) (H : Heap) (locs : List Loc), L_T_isPanel_30 K88 Q n v1 v5 v6 v7 z0 → lv_has ls 9 [(0, .ref (ha G 9)), (1, .long v1), (3, .ref (ha G 6)), (5, .int v5), (6, .int v6), (7, .int v7)] → Wd G z0 s.heap H locs → W p l e rm_T_isPanel s m args below meth c H locs 0 0 (MQ below (QiR Q G) args s 0 0 (fr G)) (F0 m 30 ls []) := by
  obtain ⟨hx, hb, hml, hown, hr, hlk, hex, hE⟩ := id E
  intro n
  induction n with
  | zero => exact fun _ _ _ _ _ _ _ _ hP _ _ => hP.elim
  | succ n ih =>
    intro v1 v5 v6 v7 z0 ls H locs hP hl hW
    refine lv_iload hx hb d_T_isPanel_30 (lv_at hl 5 rfl) ?_
    refine lv_aload_n hx hb d_T_isPanel_32 rfl (lv_at hl 0 rfl) ?_
    refine ygf_9_0 hx hb hown hE hW (lk_T_51 hE) d_T_isPanel_33 ?_
    refine ygn_1_0 hx hb hown hE hW (lk_T_136 hE) d_T_isPanel_36 ?_
    refine lv_iload hx hb d_T_isPanel_39 (lv_at hl 4 rfl) ?_
    refine ya_2 hx hb hE hW hP.1 d_T_isPanel_41 ?_
    have hP := hP.2
    refine lv_icmp_ge (tgt := 88) hx hb d_T_isPanel_42 rfl (fun hc => ?_) (fun hc => ?_)
    · have hP := hP.1 hc
      exact hK88 _ _ _ _ _ _ _ hP (lv_sub hl [0, 1, 2, 3, 4] rfl) hW
    · have hP := hP.2 hc
      refine lv_iload hx hb d_T_isPanel_45 (lv_at hl 4 rfl) ?_
      refine lv_iload hx hb d_T_isPanel_47 (lv_at hl 5 rfl) ?_
      refine yc_i (ySN (As := [.int v6, .int v7]) (rest := []) E (c_O_quotaOf _ _ _ _ hP) (cw_T_114 hE) (by decide) hW hl.1 rfl rfl rfl d_T_isPanel_49) hW (fun x4 z3 H locs hP hW => ?_)
      refine lv_istore (lv' := [(8, .int x4), (0, .ref (ha G 9)), (1, .long v1), (3, .ref (ha G 6)), (5, .int v5), (6, .int v6), (7, .int v7)]) hx hb d_T_isPanel_52 hl (by decide) rfl (fun ls hl => ?_)
      refine lv_iload hx hb d_T_isPanel_54 (lv_at hl 4 rfl) ?_
      refine lv_if_eq (tgt := 79) hx hb d_T_isPanel_56 rfl (fun hc => ?_) (fun hc => ?_)
      · have hP := hP.1 hc
        exact wJ_T_isPanel_79 E ih hK88 _ _ _ _ _ _ _ hP (lv_sub hl [1, 2, 3, 5, 6] rfl) hW
      · have hP := hP.2 hc
        refine lv_lload_n hx hb d_T_isPanel_59 rfl (lv_at hl 2 rfl) ?_
        refine lv_iload hx hb d_T_isPanel_60 (lv_at hl 0 rfl) ?_
        refine yc_i (yS (As := [.long v1, .int x4]) (rest := []) E (c_T_field _ _ _ _ hP) (cw_T_107 hE) (by decide) hW hl.1 rfl rfl rfl d_T_isPanel_62) hW (fun x7 z6 H locs hP hW => ?_)
        refine lv_aload_n hx hb d_T_isPanel_65 rfl (lv_at hl 3 rfl) ?_
        refine ygn_6_0 hx hb hown hE hW (lk_T_139 hE) d_T_isPanel_66 ?_
        refine lv_iload hx hb d_T_isPanel_69 (lv_at hl 0 rfl) ?_
        refine ya_7 hx hb hE hW hP.1 d_T_isPanel_71 ?_
        have hP := hP.2
        refine lv_icmp_lt (tgt := 79) hx hb d_T_isPanel_72 rfl (fun hc => ?_) (fun hc => ?_)
        · have hP := hP.1 hc
          exact wJ_T_isPanel_79 E ih hK88 _ _ _ _ _ _ _ hP (lv_sub hl [1, 2, 3, 5, 6] rfl) hW
        · have hP := hP.2 hc
          refine lv_iconst (v := 1) hx hb d_T_isPanel_75 (by decide) ?_
          refine lv_goto (tgt := 80) hx hb d_T_isPanel_76 rfl ?_
          refine lv_istore (lv' := [(5, .int (1 : Int32)), (8, .int x4), (0, .ref (ha G 9)), (1, .long v1), (3, .ref (ha G 6)), (6, .int v6), (7, .int v7)]) hx hb d_T_isPanel_80 hl (by decide) rfl (fun ls hl => ?_)
          obtain ⟨x8, e_x8⟩ : ∃ z : Int32, z = v7 + 1 := ⟨_, rfl⟩
          have hP := hP x8 e_x8
          refine lv_iinc (k := 6) (lv' := [(7, .int x8), (5, .int (1 : Int32)), (8, .int x4), (0, .ref (ha G 9)), (1, .long v1), (3, .ref (ha G 6)), (6, .int v6)]) hx hb d_T_isPanel_82 hl rfl (ii_p1 e_x8) (by decide) rfl (fun ls hl => ?_)
          refine lv_goto (tgt := 30) hx hb d_T_isPanel_85 rfl ?_
          exact ih _ _ _ _ _ _ _ _ hP (lv_sub hl [3, 4, 5, 1, 6, 0] rfl) hW
set_option maxHeartbeats 4000000 in
set_option maxRecDepth 100000 in
theorem wL_T_isPanel_21 {Q : Int32 → St → Prop} (E : En p l s m meth c args cc_T_isPanel 9 R_T (some .boolean) G) :
    ∀ (n : Nat) (v1 : Int64) (v5 : Int32) (v6 : Int32) (z0 : St) (ls : Array Slot) (H : Heap) (locs : List Loc), L_T_isPanel_21 Q n v1 v5 v6 z0 → lv_has ls 9 [(0, .ref (ha G 9)), (1, .long v1), (3, .ref (ha G 6)), (5, .int v5), (6, .int v6)] → Wd G z0 s.heap H locs → W p l e rm_T_isPanel s m args below meth c H locs 0 0 (MQ below (QiR Q G) args s 0 0 (fr G)) (F0 m 21 ls []) := by
  obtain ⟨hx, hb, hml, hown, hr, hlk, hex, hE⟩ := id E
  intro n
  induction n with
  | zero => exact fun _ _ _ _ _ _ _ hP _ _ => hP.elim
  | succ n ih =>
    intro v1 v5 v6 z0 ls H locs hP hl hW
    refine lv_iload hx hb d_T_isPanel_21 (lv_at hl 4 rfl) ?_
    refine lv_iconst (v := 3) hx hb d_T_isPanel_23 (by decide) ?_
    refine lv_icmp_ge (tgt := 94) hx hb d_T_isPanel_24 rfl (fun hc => ?_) (fun hc => ?_)
    · have hP := hP.1 hc
      refine lv_iload hx hb d_T_isPanel_94 (lv_at hl 3 rfl) ?_
      exact yr_z hx hb hr hlk hW hP.1 hP.2 d_T_isPanel_96
    · have hP := hP.2 hc
      refine lv_iconst (v := 0) hx hb d_T_isPanel_27 (by decide) ?_
      refine lv_istore (lv' := [(7, .int (0 : Int32)), (0, .ref (ha G 9)), (1, .long v1), (3, .ref (ha G 6)), (5, .int v5), (6, .int v6)]) hx hb d_T_isPanel_28 hl (by decide) rfl (fun ls hl => ?_)
      obtain ⟨n2, hP⟩ := hP
      refine wL_T_isPanel_30 E ?_ n2 _ _ _ _ _ _ _ _ hP (lv_sub hl [1, 2, 3, 4, 5, 0] rfl) hW
      · intro x9 x10 x11 z12 ls H locs hP hl hW
        obtain ⟨x13, e_x13⟩ : ∃ z : Int32, z = x11 + 1 := ⟨_, rfl⟩
        have hP := hP x13 e_x13
        refine lv_iinc (k := 4) (lv' := [(6, .int x13), (0, .ref (ha G 9)), (1, .long x9), (3, .ref (ha G 6)), (5, .int x10)]) hx hb d_T_isPanel_88 hl rfl (ii_p1 e_x13) (by decide) rfl (fun ls hl => ?_)
        refine lv_goto (tgt := 21) hx hb d_T_isPanel_91 rfl ?_
        exact ih _ _ _ _ _ _ _ hP (lv_sub hl [1, 2, 3, 4, 0] rfl) hW
set_option maxHeartbeats 4000000 in
set_option maxRecDepth 100000 in
theorem c_T_isPanel {l : Launch} {G : GG} (a1 : Int64) (a4 : Int32) (z0 : St) (Q : Int32 → St → Prop) (hP : P_T_isPanel a1 a4 z0 Q) : Cti l y_T_isPanel cc_T_isPanel 9 (some .boolean) rm_T_isPanel G [.ref (ha G 9), .long a1, .ref (ha G 6), .int a4] z0 Q := by
  refine Cti.op (own := R_T) (by decide) rfl (Nat.le_of_ble_eq_true rfl) (fun p e s m args below meth c ls E hl hW => ?_)
  obtain ⟨hx, hb, hml, hown, hr, hlk, hex, hE⟩ := id E
  have hl : lv_has ls 9 [(0, .ref (ha G 9)), (1, .long a1), (3, .ref (ha G 6)), (4, .int a4)] := hl
  refine lv_lload_n hx hb d_T_isPanel_0 rfl (lv_at hl 1 rfl) ?_
  refine lv_bipush (v := 12) hx hb d_T_isPanel_1 (by decide) ?_
  refine yc_i (yS (As := [.long a1, .int (12 : Int32)]) (rest := []) E (c_T_field _ _ _ _ hP) (cw_T_107 hE) (by decide) hW hl.1 rfl rfl rfl d_T_isPanel_3) hW (fun x2 z1 H locs hP hW => ?_)
  refine lv_iload hx hb d_T_isPanel_6 (lv_at hl 3 rfl) ?_
  refine lv_icmp_ne (tgt := 15) hx hb d_T_isPanel_8 rfl (fun hc => ?_) (fun hc => ?_)
  · have hP := hP.1 hc
    refine lv_iconst (v := 0) hx hb d_T_isPanel_15 (by decide) ?_
    refine lv_istore (lv' := [(5, .int (0 : Int32)), (0, .ref (ha G 9)), (1, .long a1), (3, .ref (ha G 6)), (4, .int a4)]) hx hb d_T_isPanel_16 hl (by decide) rfl (fun ls hl => ?_)
    refine lv_iconst (v := 0) hx hb d_T_isPanel_18 (by decide) ?_
    refine lv_istore (lv' := [(6, .int (0 : Int32)), (5, .int (0 : Int32)), (0, .ref (ha G 9)), (1, .long a1), (3, .ref (ha G 6)), (4, .int a4)]) hx hb d_T_isPanel_19 hl (by decide) rfl (fun ls hl => ?_)
    obtain ⟨n2, hP⟩ := hP
    refine wL_T_isPanel_21 E n2 _ _ _ _ _ _ _ hP (lv_sub hl [2, 3, 4, 1, 0] rfl) hW
  · have hP := hP.2 hc
    refine lv_iconst (v := 1) hx hb d_T_isPanel_11 (by decide) ?_
    refine lv_goto (tgt := 16) hx hb d_T_isPanel_12 rfl ?_
    refine lv_istore (lv' := [(5, .int (1 : Int32)), (0, .ref (ha G 9)), (1, .long a1), (3, .ref (ha G 6)), (4, .int a4)]) hx hb d_T_isPanel_16 hl (by decide) rfl (fun ls hl => ?_)
    refine lv_iconst (v := 0) hx hb d_T_isPanel_18 (by decide) ?_
    refine lv_istore (lv' := [(6, .int (0 : Int32)), (5, .int (1 : Int32)), (0, .ref (ha G 9)), (1, .long a1), (3, .ref (ha G 6)), (4, .int a4)]) hx hb d_T_isPanel_19 hl (by decide) rfl (fun ls hl => ?_)
    obtain ⟨n2, hP⟩ := hP
    refine wL_T_isPanel_21 E n2 _ _ _ _ _ _ _ hP (lv_sub hl [2, 3, 4, 1, 0] rfl) hW
theorem d_T_choose_0 : decode cc_T_choose 0 = .ok (.iload_n 1, 1) := by decide +kernel
theorem d_T_choose_1 : decode cc_T_choose 1 = .ok (.ifCond .lt 19, 3) := by decide +kernel
theorem d_T_choose_4 : decode cc_T_choose 4 = .ok (.iload_n 1, 1) := by decide +kernel
theorem d_T_choose_5 : decode cc_T_choose 5 = .ok (.bipush 40, 2) := by decide +kernel
theorem d_T_choose_7 : decode cc_T_choose 7 = .ok (.if_icmp .gt 13, 3) := by decide +kernel
theorem d_T_choose_10 : decode cc_T_choose 10 = .ok (.iload_n 2, 1) := by decide +kernel
theorem d_T_choose_11 : decode cc_T_choose 11 = .ok (.ifCond .lt 9, 3) := by decide +kernel
theorem d_T_choose_14 : decode cc_T_choose 14 = .ok (.iload_n 2, 1) := by decide +kernel
theorem d_T_choose_15 : decode cc_T_choose 15 = .ok (.bipush 8, 2) := by decide +kernel
theorem d_T_choose_17 : decode cc_T_choose 17 = .ok (.if_icmp .le 7, 3) := by decide +kernel
theorem d_T_choose_20 : decode cc_T_choose 20 = .ok (.lconst 0, 1) := by decide +kernel
theorem d_T_choose_21 : decode cc_T_choose 21 = .ok (.goto 15, 3) := by decide +kernel
theorem d_T_choose_24 : decode cc_T_choose 24 = .ok (.aload_n 0, 1) := by decide +kernel
theorem d_T_choose_25 : decode cc_T_choose 25 = .ok (.getfield 37, 3) := by decide +kernel
theorem d_T_choose_28 : decode cc_T_choose 28 = .ok (.iload_n 1, 1) := by decide +kernel
theorem d_T_choose_29 : decode cc_T_choose 29 = .ok (.bipush 9, 2) := by decide +kernel
theorem d_T_choose_31 : decode cc_T_choose 31 = .ok (.imul, 1) := by decide +kernel
theorem d_T_choose_32 : decode cc_T_choose 32 = .ok (.iload_n 2, 1) := by decide +kernel
theorem d_T_choose_33 : decode cc_T_choose 33 = .ok (.iadd, 1) := by decide +kernel
theorem d_T_choose_34 : decode cc_T_choose 34 = .ok (.iaload, 1) := by decide +kernel
theorem d_T_choose_35 : decode cc_T_choose 35 = .ok (.i2l, 1) := by decide +kernel
theorem d_T_choose_36 : decode cc_T_choose 36 = .ok (.lreturn, 1) := by decide +kernel
def P_T_choose (a1 : Int32) (a2 : Int32) (z0 : St) (Q : Int64 → St → Prop) : Prop := ((a1 < 0) → Q (0 : Int64) z0) ∧ ((¬ a1 < 0) → (((40 : Int32) < a1) → Q (0 : Int64) z0) ∧ ((¬ (40 : Int32) < a1) → ((a2 < 0) → Q (0 : Int64) z0) ∧ ((¬ a2 < 0) → ((a2 ≤ (8 : Int32)) → vp_in ((a1 * (9 : Int32)) + a2) 369 ∧ Q ((z0.1 18 ((a1 * (9 : Int32)) + a2).toNatClampNeg).toInt64) z0) ∧ ((¬ a2 ≤ (8 : Int32)) → Q (0 : Int64) z0))))
set_option maxHeartbeats 4000000 in
set_option maxRecDepth 100000 in
theorem c_T_choose {l : Launch} {G : GG} (a1 : Int32) (a2 : Int32) (z0 : St) (Q : Int64 → St → Prop) (hP : P_T_choose a1 a2 z0 Q) : Ctl l y_T_choose cc_T_choose 3 (some .long) rm_T_choose G [.ref (ha G 9), .int a1, .int a2] z0 Q := by
  refine Ctl.op (own := R_T) (by decide) rfl (Nat.le_of_ble_eq_true rfl) (fun p e s m args below meth c ls E hl hW => ?_)
  obtain ⟨hx, hb, hml, hown, hr, hlk, hex, hE⟩ := id E
  have hl : lv_has ls 3 [(0, .ref (ha G 9)), (1, .int a1), (2, .int a2)] := hl
  refine lv_iload_n hx hb d_T_choose_0 rfl (lv_at hl 1 rfl) ?_
  refine lv_if_lt (tgt := 20) hx hb d_T_choose_1 rfl (fun hc => ?_) (fun hc => ?_)
  · have hP := hP.1 hc
    refine lv_lconst (v := 0) hx hb d_T_choose_20 (by decide) ?_
    refine lv_goto (tgt := 36) hx hb d_T_choose_21 rfl ?_
    exact yr_l hx hb hr hlk hW hP d_T_choose_36
  · have hP := hP.2 hc
    refine lv_iload_n hx hb d_T_choose_4 rfl (lv_at hl 1 rfl) ?_
    refine lv_bipush (v := 40) hx hb d_T_choose_5 (by decide) ?_
    refine lv_icmp_gt (tgt := 20) hx hb d_T_choose_7 rfl (fun hc => ?_) (fun hc => ?_)
    · have hP := hP.1 hc
      refine lv_lconst (v := 0) hx hb d_T_choose_20 (by decide) ?_
      refine lv_goto (tgt := 36) hx hb d_T_choose_21 rfl ?_
      exact yr_l hx hb hr hlk hW hP d_T_choose_36
    · have hP := hP.2 hc
      refine lv_iload_n hx hb d_T_choose_10 rfl (lv_at hl 2 rfl) ?_
      refine lv_if_lt (tgt := 20) hx hb d_T_choose_11 rfl (fun hc => ?_) (fun hc => ?_)
      · have hP := hP.1 hc
        refine lv_lconst (v := 0) hx hb d_T_choose_20 (by decide) ?_
        refine lv_goto (tgt := 36) hx hb d_T_choose_21 rfl ?_
        exact yr_l hx hb hr hlk hW hP d_T_choose_36
      · have hP := hP.2 hc
        refine lv_iload_n hx hb d_T_choose_14 rfl (lv_at hl 2 rfl) ?_
        refine lv_bipush (v := 8) hx hb d_T_choose_15 (by decide) ?_
        refine lv_icmp_le (tgt := 24) hx hb d_T_choose_17 rfl (fun hc => ?_) (fun hc => ?_)
        · have hP := hP.1 hc
          refine lv_aload_n hx hb d_T_choose_24 rfl (lv_at hl 0 rfl) ?_
          refine ygf_9_9 hx hb hown hE hW (lk_T_37 hE) d_T_choose_25 ?_
          refine lv_iload_n hx hb d_T_choose_28 rfl (lv_at hl 1 rfl) ?_
          refine lv_bipush (v := 9) hx hb d_T_choose_29 (by decide) ?_
          refine lv_imul hx hb d_T_choose_31 ?_
          refine lv_iload_n hx hb d_T_choose_32 rfl (lv_at hl 2 rfl) ?_
          refine lv_iadd hx hb d_T_choose_33 ?_
          refine ya_18 hx hb hE hW hP.1 d_T_choose_34 ?_
          have hP := hP.2
          refine lv_i2l hx hb d_T_choose_35 rfl ?_
          exact yr_l hx hb hr hlk hW hP d_T_choose_36
        · have hP := hP.2 hc
          refine lv_lconst (v := 0) hx hb d_T_choose_20 (by decide) ?_
          refine lv_goto (tgt := 36) hx hb d_T_choose_21 rfl ?_
          exact yr_l hx hb hr hlk hW hP d_T_choose_36
theorem d_T_aheadWithAny_0 : decode cc_T_aheadWithAny 0 = .ok (.aload_n 0, 1) := by decide +kernel
theorem d_T_aheadWithAny_1 : decode cc_T_aheadWithAny 1 = .ok (.getfield 19, 3) := by decide +kernel
theorem d_T_aheadWithAny_4 : decode cc_T_aheadWithAny 4 = .ok (.iload_n 1, 1) := by decide +kernel
theorem d_T_aheadWithAny_5 : decode cc_T_aheadWithAny 5 = .ok (.iaload, 1) := by decide +kernel
theorem d_T_aheadWithAny_6 : decode cc_T_aheadWithAny 6 = .ok (.istore_n 3, 1) := by decide +kernel
theorem d_T_aheadWithAny_7 : decode cc_T_aheadWithAny 7 = .ok (.aload_n 0, 1) := by decide +kernel
theorem d_T_aheadWithAny_8 : decode cc_T_aheadWithAny 8 = .ok (.getfield 25, 3) := by decide +kernel
theorem d_T_aheadWithAny_11 : decode cc_T_aheadWithAny 11 = .ok (.iload_n 3, 1) := by decide +kernel
theorem d_T_aheadWithAny_12 : decode cc_T_aheadWithAny 12 = .ok (.laload, 1) := by decide +kernel
theorem d_T_aheadWithAny_13 : decode cc_T_aheadWithAny 13 = .ok (.lstore 4, 2) := by decide +kernel
theorem d_T_aheadWithAny_15 : decode cc_T_aheadWithAny 15 = .ok (.iconst 1, 1) := by decide +kernel
theorem d_T_aheadWithAny_16 : decode cc_T_aheadWithAny 16 = .ok (.istore 6, 2) := by decide +kernel
theorem d_T_aheadWithAny_18 : decode cc_T_aheadWithAny 18 = .ok (.iload 6, 2) := by decide +kernel
theorem d_T_aheadWithAny_20 : decode cc_T_aheadWithAny 20 = .ok (.aload_n 0, 1) := by decide +kernel
theorem d_T_aheadWithAny_21 : decode cc_T_aheadWithAny 21 = .ok (.getfield 15, 3) := by decide +kernel
theorem d_T_aheadWithAny_24 : decode cc_T_aheadWithAny 24 = .ok (.iload_n 1, 1) := by decide +kernel
theorem d_T_aheadWithAny_25 : decode cc_T_aheadWithAny 25 = .ok (.iaload, 1) := by decide +kernel
theorem d_T_aheadWithAny_26 : decode cc_T_aheadWithAny 26 = .ok (.if_icmp .gt 35, 3) := by decide +kernel
theorem d_T_aheadWithAny_29 : decode cc_T_aheadWithAny 29 = .ok (.aload_n 0, 1) := by decide +kernel
theorem d_T_aheadWithAny_30 : decode cc_T_aheadWithAny 30 = .ok (.getfield 22, 3) := by decide +kernel
theorem d_T_aheadWithAny_33 : decode cc_T_aheadWithAny 33 = .ok (.iload_n 3, 1) := by decide +kernel
theorem d_T_aheadWithAny_34 : decode cc_T_aheadWithAny 34 = .ok (.iaload, 1) := by decide +kernel
theorem d_T_aheadWithAny_35 : decode cc_T_aheadWithAny 35 = .ok (.istore_n 3, 1) := by decide +kernel
theorem d_T_aheadWithAny_36 : decode cc_T_aheadWithAny 36 = .ok (.lload 4, 2) := by decide +kernel
theorem d_T_aheadWithAny_38 : decode cc_T_aheadWithAny 38 = .ok (.aload_n 0, 1) := by decide +kernel
theorem d_T_aheadWithAny_39 : decode cc_T_aheadWithAny 39 = .ok (.iload_n 2, 1) := by decide +kernel
theorem d_T_aheadWithAny_40 : decode cc_T_aheadWithAny 40 = .ok (.iload 6, 2) := by decide +kernel
theorem d_T_aheadWithAny_42 : decode cc_T_aheadWithAny 42 = .ok (.invokevirtual 142, 3) := by decide +kernel
theorem d_T_aheadWithAny_45 : decode cc_T_aheadWithAny 45 = .ok (.aload_n 0, 1) := by decide +kernel
theorem d_T_aheadWithAny_46 : decode cc_T_aheadWithAny 46 = .ok (.getfield 25, 3) := by decide +kernel
theorem d_T_aheadWithAny_49 : decode cc_T_aheadWithAny 49 = .ok (.iload_n 3, 1) := by decide +kernel
theorem d_T_aheadWithAny_50 : decode cc_T_aheadWithAny 50 = .ok (.laload, 1) := by decide +kernel
theorem d_T_aheadWithAny_51 : decode cc_T_aheadWithAny 51 = .ok (.lmul, 1) := by decide +kernel
theorem d_T_aheadWithAny_52 : decode cc_T_aheadWithAny 52 = .ok (.ladd, 1) := by decide +kernel
theorem d_T_aheadWithAny_53 : decode cc_T_aheadWithAny 53 = .ok (.lstore 4, 2) := by decide +kernel
theorem d_T_aheadWithAny_55 : decode cc_T_aheadWithAny 55 = .ok (.iinc 6 1, 3) := by decide +kernel
theorem d_T_aheadWithAny_58 : decode cc_T_aheadWithAny 58 = .ok (.goto (-40), 3) := by decide +kernel
theorem d_T_aheadWithAny_61 : decode cc_T_aheadWithAny 61 = .ok (.lload 4, 2) := by decide +kernel
theorem d_T_aheadWithAny_63 : decode cc_T_aheadWithAny 63 = .ok (.lreturn, 1) := by decide +kernel
def L_T_aheadWithAny_18 (Q : Int64 → St → Prop) : Nat → Int32 → Int32 → Int32 → Int64 → Int32 → St → Prop
  | 0, _, _, _, _, _, _ => False
  | n + 1, v1, v2, v3, v4, v6, z0 => vp_in v1 1001 ∧ (((z0.1 11 v1.toNatClampNeg) < v6) → Q v4 z0) ∧ ((¬ (z0.1 11 v1.toNatClampNeg) < v6) → vp_in v3 1001 ∧ ∀ x3 : Int32, x3 = (z0.1 13 v3.toNatClampNeg) → P_T_choose v2 v6 z0 (fun (x5 : Int64) (z4 : St) => vp_in x3 1001 ∧ ∀ x6 : Int64, x6 = v4 + (x5 * (z4.2 14 x3.toNatClampNeg)) → ∀ x7 : Int32, x7 = v6 + 1 → L_T_aheadWithAny_18 Q n v1 v2 x3 x6 x7 z4))
def P_T_aheadWithAny (a1 : Int32) (a2 : Int32) (z0 : St) (Q : Int64 → St → Prop) : Prop := vp_in a1 1001 ∧ ∀ x1 : Int32, x1 = (z0.1 12 a1.toNatClampNeg) → vp_in x1 1001 ∧ ∀ x2 : Int64, x2 = (z0.2 14 x1.toNatClampNeg) → ∃ k18 : Nat, L_T_aheadWithAny_18 Q k18 a1 a2 x1 x2 (1 : Int32) z0
set_option maxHeartbeats 4000000 in
set_option maxRecDepth 100000 in
theorem wL_T_aheadWithAny_18 {Q : Int64 → St → Prop} (E : En p l s m meth c args cc_T_aheadWithAny 7 R_T (some .long) G) :
    ∀ (n : Nat) (v1 : Int32) (v2 : Int32) (v3 : Int32) (v4 : Int64) (v6 : Int32) (z0 : St) (ls : Array Slot) (H : Heap) (locs : List Loc), L_T_aheadWithAny_18 Q n v1 v2 v3 v4 v6 z0 → lv_has ls 7 [(0, .ref (ha G 9)), (1, .int v1), (2, .int v2), (3, .int v3), (4, .long v4), (6, .int v6)] → Wd G z0 s.heap H locs → W p l e rm_T_aheadWithAny s m args below meth c H locs 0 0 (MQ below (QlR Q G) args s 0 0 (fr G)) (F0 m 18 ls []) := by
  obtain ⟨hx, hb, hml, hown, hr, hlk, hex, hE⟩ := id E
  intro n
  induction n with
  | zero => exact fun _ _ _ _ _ _ _ _ _ hP _ _ => hP.elim
  | succ n ih =>
    intro v1 v2 v3 v4 v6 z0 ls H locs hP hl hW
    refine lv_iload hx hb d_T_aheadWithAny_18 (lv_at hl 5 rfl) ?_
    refine lv_aload_n hx hb d_T_aheadWithAny_20 rfl (lv_at hl 0 rfl) ?_
    refine ygf_9_2 hx hb hown hE hW (lk_T_15 hE) d_T_aheadWithAny_21 ?_
    refine lv_iload_n hx hb d_T_aheadWithAny_24 rfl (lv_at hl 1 rfl) ?_
    refine ya_11 hx hb hE hW hP.1 d_T_aheadWithAny_25 ?_
    have hP := hP.2
    refine lv_icmp_gt (tgt := 61) hx hb d_T_aheadWithAny_26 rfl (fun hc => ?_) (fun hc => ?_)
    · have hP := hP.1 hc
      refine lv_lload hx hb d_T_aheadWithAny_61 (lv_at hl 4 rfl) ?_
      exact yr_l hx hb hr hlk hW hP d_T_aheadWithAny_63
    · have hP := hP.2 hc
      refine lv_aload_n hx hb d_T_aheadWithAny_29 rfl (lv_at hl 0 rfl) ?_
      refine ygf_9_4 hx hb hown hE hW (lk_T_22 hE) d_T_aheadWithAny_30 ?_
      refine lv_iload_n hx hb d_T_aheadWithAny_33 rfl (lv_at hl 3 rfl) ?_
      refine ya_13 hx hb hE hW hP.1 d_T_aheadWithAny_34 ?_
      have hP := hP.2
      refine lv_topi (fun x3 e_x3 => ?_)
      have hP := hP x3 e_x3
      refine lv_istore_n (lv' := [(3, .int x3), (0, .ref (ha G 9)), (1, .int v1), (2, .int v2), (4, .long v4), (6, .int v6)]) hx hb d_T_aheadWithAny_35 rfl hl (by decide) rfl (fun ls hl => ?_)
      refine lv_lload hx hb d_T_aheadWithAny_36 (lv_at hl 4 rfl) ?_
      refine lv_aload_n hx hb d_T_aheadWithAny_38 rfl (lv_at hl 1 rfl) ?_
      refine lv_iload_n hx hb d_T_aheadWithAny_39 rfl (lv_at hl 3 rfl) ?_
      refine lv_iload hx hb d_T_aheadWithAny_40 (lv_at hl 5 rfl) ?_
      refine yc_l (yV (As := [.int v2, .int v6]) (rest := [.long v4]) E (c_T_choose _ _ _ _ hP) (cw_T_142 hE) (yrv_9 hE hW) (by decide) hW hl.1 rfl rfl rfl d_T_aheadWithAny_42) hW (fun x5 z4 H locs hP hW => ?_)
      refine lv_aload_n hx hb d_T_aheadWithAny_45 rfl (lv_at hl 1 rfl) ?_
      refine ygf_9_5 hx hb hown hE hW (lk_T_25 hE) d_T_aheadWithAny_46 ?_
      refine lv_iload_n hx hb d_T_aheadWithAny_49 rfl (lv_at hl 0 rfl) ?_
      refine ya_14 hx hb hE hW hP.1 d_T_aheadWithAny_50 ?_
      have hP := hP.2
      refine lv_lmul hx hb d_T_aheadWithAny_51 ?_
      refine lv_ladd hx hb d_T_aheadWithAny_52 ?_
      refine lv_topl (fun x6 e_x6 => ?_)
      have hP := hP x6 e_x6
      refine lv_lstore (lv' := [(4, .long x6), (3, .int x3), (0, .ref (ha G 9)), (1, .int v1), (2, .int v2), (6, .int v6)]) hx hb d_T_aheadWithAny_53 hl (by decide) rfl (fun ls hl => ?_)
      obtain ⟨x7, e_x7⟩ : ∃ z : Int32, z = v6 + 1 := ⟨_, rfl⟩
      have hP := hP x7 e_x7
      refine lv_iinc (k := 5) (lv' := [(6, .int x7), (4, .long x6), (3, .int x3), (0, .ref (ha G 9)), (1, .int v1), (2, .int v2)]) hx hb d_T_aheadWithAny_55 hl rfl (ii_p1 e_x7) (by decide) rfl (fun ls hl => ?_)
      refine lv_goto (tgt := 18) hx hb d_T_aheadWithAny_58 rfl ?_
      exact ih _ _ _ _ _ _ _ _ _ hP (lv_sub hl [3, 4, 5, 2, 1, 0] rfl) hW
set_option maxHeartbeats 4000000 in
set_option maxRecDepth 100000 in
theorem c_T_aheadWithAny {l : Launch} {G : GG} (a1 : Int32) (a2 : Int32) (z0 : St) (Q : Int64 → St → Prop) (hP : P_T_aheadWithAny a1 a2 z0 Q) : Ctl l y_T_aheadWithAny cc_T_aheadWithAny 7 (some .long) rm_T_aheadWithAny G [.ref (ha G 9), .int a1, .int a2] z0 Q := by
  refine Ctl.op (own := R_T) (by decide) rfl (Nat.le_of_ble_eq_true rfl) (fun p e s m args below meth c ls E hl hW => ?_)
  obtain ⟨hx, hb, hml, hown, hr, hlk, hex, hE⟩ := id E
  have hl : lv_has ls 7 [(0, .ref (ha G 9)), (1, .int a1), (2, .int a2)] := hl
  refine lv_aload_n hx hb d_T_aheadWithAny_0 rfl (lv_at hl 0 rfl) ?_
  refine ygf_9_3 hx hb hown hE hW (lk_T_19 hE) d_T_aheadWithAny_1 ?_
  refine lv_iload_n hx hb d_T_aheadWithAny_4 rfl (lv_at hl 1 rfl) ?_
  refine ya_12 hx hb hE hW hP.1 d_T_aheadWithAny_5 ?_
  have hP := hP.2
  refine lv_topi (fun x1 e_x1 => ?_)
  have hP := hP x1 e_x1
  refine lv_istore_n (lv' := [(3, .int x1), (0, .ref (ha G 9)), (1, .int a1), (2, .int a2)]) hx hb d_T_aheadWithAny_6 rfl hl (by decide) rfl (fun ls hl => ?_)
  refine lv_aload_n hx hb d_T_aheadWithAny_7 rfl (lv_at hl 1 rfl) ?_
  refine ygf_9_5 hx hb hown hE hW (lk_T_25 hE) d_T_aheadWithAny_8 ?_
  refine lv_iload_n hx hb d_T_aheadWithAny_11 rfl (lv_at hl 0 rfl) ?_
  refine ya_14 hx hb hE hW hP.1 d_T_aheadWithAny_12 ?_
  have hP := hP.2
  refine lv_topl (fun x2 e_x2 => ?_)
  have hP := hP x2 e_x2
  refine lv_lstore (lv' := [(4, .long x2), (3, .int x1), (0, .ref (ha G 9)), (1, .int a1), (2, .int a2)]) hx hb d_T_aheadWithAny_13 hl (by decide) rfl (fun ls hl => ?_)
  refine lv_iconst (v := 1) hx hb d_T_aheadWithAny_15 (by decide) ?_
  refine lv_istore (lv' := [(6, .int (1 : Int32)), (4, .long x2), (3, .int x1), (0, .ref (ha G 9)), (1, .int a1), (2, .int a2)]) hx hb d_T_aheadWithAny_16 hl (by decide) rfl (fun ls hl => ?_)
  obtain ⟨n2, hP⟩ := hP
  refine wL_T_aheadWithAny_18 E n2 _ _ _ _ _ _ _ _ _ hP (lv_sub hl [3, 4, 5, 2, 1, 0] rfl) hW
theorem d_T_countAhead_0 : decode cc_T_countAhead 0 = .ok (.aload_n 0, 1) := by decide +kernel
theorem d_T_countAhead_1 : decode cc_T_countAhead 1 = .ok (.getfield 34, 3) := by decide +kernel
theorem d_T_countAhead_4 : decode cc_T_countAhead 4 = .ok (.aload_n 0, 1) := by decide +kernel
theorem d_T_countAhead_5 : decode cc_T_countAhead 5 = .ok (.getfield 51, 3) := by decide +kernel
theorem d_T_countAhead_8 : decode cc_T_countAhead 8 = .ok (.getfield 71, 3) := by decide +kernel
theorem d_T_countAhead_11 : decode cc_T_countAhead 11 = .ok (.iaload, 1) := by decide +kernel
theorem d_T_countAhead_12 : decode cc_T_countAhead 12 = .ok (.istore_n 3, 1) := by decide +kernel
theorem d_T_countAhead_13 : decode cc_T_countAhead 13 = .ok (.iload_n 3, 1) := by decide +kernel
theorem d_T_countAhead_14 : decode cc_T_countAhead 14 = .ok (.aload_n 0, 1) := by decide +kernel
theorem d_T_countAhead_15 : decode cc_T_countAhead 15 = .ok (.getfield 40, 3) := by decide +kernel
theorem d_T_countAhead_18 : decode cc_T_countAhead 18 = .ok (.if_icmp .ge 35, 3) := by decide +kernel
theorem d_T_countAhead_21 : decode cc_T_countAhead 21 = .ok (.aload_n 0, 1) := by decide +kernel
theorem d_T_countAhead_22 : decode cc_T_countAhead 22 = .ok (.getfield 25, 3) := by decide +kernel
theorem d_T_countAhead_25 : decode cc_T_countAhead 25 = .ok (.iload_n 3, 1) := by decide +kernel
theorem d_T_countAhead_26 : decode cc_T_countAhead 26 = .ok (.aload_n 0, 1) := by decide +kernel
theorem d_T_countAhead_27 : decode cc_T_countAhead 27 = .ok (.aload_n 0, 1) := by decide +kernel
theorem d_T_countAhead_28 : decode cc_T_countAhead 28 = .ok (.getfield 11, 3) := by decide +kernel
theorem d_T_countAhead_31 : decode cc_T_countAhead 31 = .ok (.iload_n 3, 1) := by decide +kernel
theorem d_T_countAhead_32 : decode cc_T_countAhead 32 = .ok (.laload, 1) := by decide +kernel
theorem d_T_countAhead_33 : decode cc_T_countAhead 33 = .ok (.aload_n 1, 1) := by decide +kernel
theorem d_T_countAhead_34 : decode cc_T_countAhead 34 = .ok (.iload_n 2, 1) := by decide +kernel
theorem d_T_countAhead_35 : decode cc_T_countAhead 35 = .ok (.invokevirtual 129, 3) := by decide +kernel
theorem d_T_countAhead_38 : decode cc_T_countAhead 38 = .ok (.ifCond .eq 7, 3) := by decide +kernel
theorem d_T_countAhead_41 : decode cc_T_countAhead 41 = .ok (.lconst 1, 1) := by decide +kernel
theorem d_T_countAhead_42 : decode cc_T_countAhead 42 = .ok (.goto 4, 3) := by decide +kernel
theorem d_T_countAhead_45 : decode cc_T_countAhead 45 = .ok (.lconst 0, 1) := by decide +kernel
theorem d_T_countAhead_46 : decode cc_T_countAhead 46 = .ok (.lastore, 1) := by decide +kernel
theorem d_T_countAhead_47 : decode cc_T_countAhead 47 = .ok (.iinc 3 1, 3) := by decide +kernel
theorem d_T_countAhead_50 : decode cc_T_countAhead 50 = .ok (.goto (-37), 3) := by decide +kernel
theorem d_T_countAhead_53 : decode cc_T_countAhead 53 = .ok (.aload_n 0, 1) := by decide +kernel
theorem d_T_countAhead_54 : decode cc_T_countAhead 54 = .ok (.getfield 51, 3) := by decide +kernel
theorem d_T_countAhead_57 : decode cc_T_countAhead 57 = .ok (.getfield 71, 3) := by decide +kernel
theorem d_T_countAhead_60 : decode cc_T_countAhead 60 = .ok (.iconst 1, 1) := by decide +kernel
theorem d_T_countAhead_61 : decode cc_T_countAhead 61 = .ok (.isub, 1) := by decide +kernel
theorem d_T_countAhead_62 : decode cc_T_countAhead 62 = .ok (.istore_n 3, 1) := by decide +kernel
theorem d_T_countAhead_63 : decode cc_T_countAhead 63 = .ok (.iload_n 3, 1) := by decide +kernel
theorem d_T_countAhead_64 : decode cc_T_countAhead 64 = .ok (.ifCond .lt 58, 3) := by decide +kernel
theorem d_T_countAhead_67 : decode cc_T_countAhead 67 = .ok (.aload_n 0, 1) := by decide +kernel
theorem d_T_countAhead_68 : decode cc_T_countAhead 68 = .ok (.getfield 34, 3) := by decide +kernel
theorem d_T_countAhead_71 : decode cc_T_countAhead 71 = .ok (.iload_n 3, 1) := by decide +kernel
theorem d_T_countAhead_72 : decode cc_T_countAhead 72 = .ok (.iaload, 1) := by decide +kernel
theorem d_T_countAhead_73 : decode cc_T_countAhead 73 = .ok (.istore 4, 2) := by decide +kernel
theorem d_T_countAhead_75 : decode cc_T_countAhead 75 = .ok (.iload 4, 2) := by decide +kernel
theorem d_T_countAhead_77 : decode cc_T_countAhead 77 = .ok (.aload_n 0, 1) := by decide +kernel
theorem d_T_countAhead_78 : decode cc_T_countAhead 78 = .ok (.getfield 34, 3) := by decide +kernel
theorem d_T_countAhead_81 : decode cc_T_countAhead 81 = .ok (.iload_n 3, 1) := by decide +kernel
theorem d_T_countAhead_82 : decode cc_T_countAhead 82 = .ok (.iconst 1, 1) := by decide +kernel
theorem d_T_countAhead_83 : decode cc_T_countAhead 83 = .ok (.iadd, 1) := by decide +kernel
theorem d_T_countAhead_84 : decode cc_T_countAhead 84 = .ok (.iaload, 1) := by decide +kernel
theorem d_T_countAhead_85 : decode cc_T_countAhead 85 = .ok (.if_icmp .ge 31, 3) := by decide +kernel
theorem d_T_countAhead_88 : decode cc_T_countAhead 88 = .ok (.aload_n 0, 1) := by decide +kernel
theorem d_T_countAhead_89 : decode cc_T_countAhead 89 = .ok (.getfield 25, 3) := by decide +kernel
theorem d_T_countAhead_92 : decode cc_T_countAhead 92 = .ok (.iload 4, 2) := by decide +kernel
theorem d_T_countAhead_94 : decode cc_T_countAhead 94 = .ok (.aload_n 0, 1) := by decide +kernel
theorem d_T_countAhead_95 : decode cc_T_countAhead 95 = .ok (.iload 4, 2) := by decide +kernel
theorem d_T_countAhead_97 : decode cc_T_countAhead 97 = .ok (.aload_n 0, 1) := by decide +kernel
theorem d_T_countAhead_98 : decode cc_T_countAhead 98 = .ok (.getfield 51, 3) := by decide +kernel
theorem d_T_countAhead_101 : decode cc_T_countAhead 101 = .ok (.getfield 87, 3) := by decide +kernel
theorem d_T_countAhead_104 : decode cc_T_countAhead 104 = .ok (.iload_n 3, 1) := by decide +kernel
theorem d_T_countAhead_105 : decode cc_T_countAhead 105 = .ok (.iaload, 1) := by decide +kernel
theorem d_T_countAhead_106 : decode cc_T_countAhead 106 = .ok (.invokevirtual 133, 3) := by decide +kernel
theorem d_T_countAhead_109 : decode cc_T_countAhead 109 = .ok (.lastore, 1) := by decide +kernel
theorem d_T_countAhead_110 : decode cc_T_countAhead 110 = .ok (.iinc 4 1, 3) := by decide +kernel
theorem d_T_countAhead_113 : decode cc_T_countAhead 113 = .ok (.goto (-38), 3) := by decide +kernel
theorem d_T_countAhead_116 : decode cc_T_countAhead 116 = .ok (.iinc 3 (-1), 3) := by decide +kernel
theorem d_T_countAhead_119 : decode cc_T_countAhead 119 = .ok (.goto (-56), 3) := by decide +kernel
theorem d_T_countAhead_122 : decode cc_T_countAhead 122 = .ok (.return_, 1) := by decide +kernel
def L_T_countAhead_13 (K53 : St → Prop) (Q : St → Prop) : Nat → Int32 → Int32 → St → Prop
  | 0, _, _, _ => False
  | n + 1, v2, v3, z0 => (((z0.1 9 10) ≤ v3) → K53 z0) ∧ ((¬ (z0.1 9 10) ≤ v3) → vp_in v3 1001 ∧ P_T_isPanel (z0.2 10 v3.toNatClampNeg) v2 z0 (fun (x3 : Int32) (z2 : St) => ((x3 = 0) → vp_in v3 1001 ∧ ∀ z4 : St, z4 = wL z2 14 v3.toNatClampNeg (0 : Int64) → ∀ x5 : Int32, x5 = v3 + 1 → L_T_countAhead_13 K53 Q n v2 x5 z4) ∧ ((¬ x3 = 0) → vp_in v3 1001 ∧ ∀ z6 : St, z6 = wL z2 14 v3.toNatClampNeg (1 : Int64) → ∀ x7 : Int32, x7 = v3 + 1 → L_T_countAhead_13 K53 Q n v2 x7 z6)))
def L_T_countAhead_75 (K116 : Int32 → St → Prop) (Q : St → Prop) : Nat → Int32 → Int32 → St → Prop
  | 0, _, _, _ => False
  | n + 1, v3, v4, z0 => vp_in (v3 + (1 : Int32)) 17 ∧ (((z0.1 17 (v3 + (1 : Int32)).toNatClampNeg) ≤ v4) → K116 v3 z0) ∧ ((¬ (z0.1 17 (v3 + (1 : Int32)).toNatClampNeg) ≤ v4) → vp_in v3 16 ∧ P_T_aheadWithAny v4 (z0.1 5 v3.toNatClampNeg) z0 (fun (x12 : Int64) (z11 : St) => vp_in v4 1001 ∧ ∀ z13 : St, z13 = wL z11 14 v4.toNatClampNeg x12 → ∀ x14 : Int32, x14 = v4 + 1 → L_T_countAhead_75 K116 Q n v3 x14 z13))
def L_T_countAhead_63 (Q : St → Prop) : Nat → Int32 → St → Prop
  | 0, _, _ => False
  | n + 1, v3, z0 => ((v3 < 0) → Q z0) ∧ ((¬ v3 < 0) → vp_in v3 17 ∧ ∀ x10 : Int32, x10 = (z0.1 17 v3.toNatClampNeg) → ∃ k75 : Nat, L_T_countAhead_75 (fun (x15 : Int32) (z16 : St) => ∀ x17 : Int32, x17 = x15 - 1 → L_T_countAhead_63 Q n x17 z16) Q k75 v3 x10 z0)
def P_T_countAhead (a2 : Int32) (z0 : St) (Q : St → Prop) : Prop := vp_in (z0.1 1 5) 17 ∧ ∀ x1 : Int32, x1 = (z0.1 17 (z0.1 1 5).toNatClampNeg) → ∃ k13 : Nat, L_T_countAhead_13 (fun (z8 : St) => ∀ x9 : Int32, x9 = (z8.1 1 5) - (1 : Int32) → ∃ k63 : Nat, L_T_countAhead_63 Q k63 x9 z8) Q k13 a2 x1 z0
set_option maxHeartbeats 4000000 in
set_option maxRecDepth 100000 in
theorem wL_T_countAhead_13 {K53 : St → Prop} {Q : St → Prop} (E : En p l s m meth c args cc_T_countAhead 5 R_T none G)
    (hK53 : ∀ (z0 : St) (ls : Array Slot) (H : Heap) (locs : List Loc), K53 z0 → lv_has ls 5 [(0, .ref (ha G 9))] → Wd G z0 s.heap H locs → W p l e rm_T_countAhead s m args below meth c H locs 0 0 (MQ below (QvR Q G) args s 0 0 (fr G)) (F0 m 53 ls [])) :
    ∀ (n : Nat) (v2 : Int32) (v3 : Int32) (z0 : St) (ls : Array Slot) (H : Heap) (locs : List Loc), L_T_countAhead_13 K53 Q n v2 v3 z0 → lv_has ls 5 [(0, .ref (ha G 9)), (1, .ref (ha G 6)), (2, .int v2), (3, .int v3)] → Wd G z0 s.heap H locs → W p l e rm_T_countAhead s m args below meth c H locs 0 0 (MQ below (QvR Q G) args s 0 0 (fr G)) (F0 m 13 ls []) := by
  obtain ⟨hx, hb, hml, hown, hr, hlk, hex, hE⟩ := id E
  intro n
  induction n with
  | zero => exact fun _ _ _ _ _ _ hP _ _ => hP.elim
  | succ n ih =>
    intro v2 v3 z0 ls H locs hP hl hW
    refine lv_iload_n hx hb d_T_countAhead_13 rfl (lv_at hl 3 rfl) ?_
    refine lv_aload_n hx hb d_T_countAhead_14 rfl (lv_at hl 0 rfl) ?_
    refine ygf_9_10 hx hb hown hE hW (lk_T_40 hE) d_T_countAhead_15 ?_
    refine lv_icmp_ge (tgt := 53) hx hb d_T_countAhead_18 rfl (fun hc => ?_) (fun hc => ?_)
    · have hP := hP.1 hc
      exact hK53 _ _ _ _ hP (lv_sub hl [0] rfl) hW
    · have hP := hP.2 hc
      refine lv_aload_n hx hb d_T_countAhead_21 rfl (lv_at hl 0 rfl) ?_
      refine ygf_9_5 hx hb hown hE hW (lk_T_25 hE) d_T_countAhead_22 ?_
      refine lv_iload_n hx hb d_T_countAhead_25 rfl (lv_at hl 3 rfl) ?_
      refine lv_aload_n hx hb d_T_countAhead_26 rfl (lv_at hl 0 rfl) ?_
      refine lv_aload_n hx hb d_T_countAhead_27 rfl (lv_at hl 0 rfl) ?_
      refine ygf_9_1 hx hb hown hE hW (lk_T_11 hE) d_T_countAhead_28 ?_
      refine lv_iload_n hx hb d_T_countAhead_31 rfl (lv_at hl 3 rfl) ?_
      refine ya_10 hx hb hE hW hP.1 d_T_countAhead_32 ?_
      have hP := hP.2
      refine lv_aload_n hx hb d_T_countAhead_33 rfl (lv_at hl 1 rfl) ?_
      refine lv_iload_n hx hb d_T_countAhead_34 rfl (lv_at hl 2 rfl) ?_
      refine yc_i (yV (As := [.long (z0.2 10 v3.toNatClampNeg), .ref (ha G 6), .int v2]) (rest := [.int v3, .ref (ha G 14)]) E (c_T_isPanel _ _ _ _ hP) (cw_T_129 hE) (yrv_9 hE hW) (by decide) hW hl.1 rfl rfl rfl d_T_countAhead_35) hW (fun x3 z2 H locs hP hW => ?_)
      refine lv_if_eq (tgt := 45) hx hb d_T_countAhead_38 rfl (fun hc => ?_) (fun hc => ?_)
      · have hP := hP.1 hc
        refine lv_lconst (v := 0) hx hb d_T_countAhead_45 (by decide) ?_
        refine ys_14 hx hb hE hW hP.1 d_T_countAhead_46 (fun z4 H locs e_z4 hW => ?_)
        have hP := hP.2
        have hP := hP z4 e_z4
        obtain ⟨x5, e_x5⟩ : ∃ z : Int32, z = v3 + 1 := ⟨_, rfl⟩
        have hP := hP x5 e_x5
        refine lv_iinc (k := 3) (lv' := [(3, .int x5), (0, .ref (ha G 9)), (1, .ref (ha G 6)), (2, .int v2)]) hx hb d_T_countAhead_47 hl rfl (ii_p1 e_x5) (by decide) rfl (fun ls hl => ?_)
        refine lv_goto (tgt := 13) hx hb d_T_countAhead_50 rfl ?_
        exact ih _ _ _ _ _ _ hP (lv_sub hl [1, 2, 3, 0] rfl) hW
      · have hP := hP.2 hc
        refine lv_lconst (v := 1) hx hb d_T_countAhead_41 (by decide) ?_
        refine lv_goto (tgt := 46) hx hb d_T_countAhead_42 rfl ?_
        refine ys_14 hx hb hE hW hP.1 d_T_countAhead_46 (fun z6 H locs e_z6 hW => ?_)
        have hP := hP.2
        have hP := hP z6 e_z6
        obtain ⟨x7, e_x7⟩ : ∃ z : Int32, z = v3 + 1 := ⟨_, rfl⟩
        have hP := hP x7 e_x7
        refine lv_iinc (k := 3) (lv' := [(3, .int x7), (0, .ref (ha G 9)), (1, .ref (ha G 6)), (2, .int v2)]) hx hb d_T_countAhead_47 hl rfl (ii_p1 e_x7) (by decide) rfl (fun ls hl => ?_)
        refine lv_goto (tgt := 13) hx hb d_T_countAhead_50 rfl ?_
        exact ih _ _ _ _ _ _ hP (lv_sub hl [1, 2, 3, 0] rfl) hW
set_option maxHeartbeats 4000000 in
set_option maxRecDepth 100000 in
theorem wL_T_countAhead_75 {K116 : Int32 → St → Prop} {Q : St → Prop} (E : En p l s m meth c args cc_T_countAhead 5 R_T none G)
    (hK116 : ∀ (v3 : Int32) (z0 : St) (ls : Array Slot) (H : Heap) (locs : List Loc), K116 v3 z0 → lv_has ls 5 [(0, .ref (ha G 9)), (3, .int v3)] → Wd G z0 s.heap H locs → W p l e rm_T_countAhead s m args below meth c H locs 0 0 (MQ below (QvR Q G) args s 0 0 (fr G)) (F0 m 116 ls [])) :
    ∀ (n : Nat) (v3 : Int32) (v4 : Int32) (z0 : St) (ls : Array Slot) (H : Heap) (locs : List Loc), L_T_countAhead_75 K116 Q n v3 v4 z0 → lv_has ls 5 [(0, .ref (ha G 9)), (3, .int v3), (4, .int v4)] → Wd G z0 s.heap H locs → W p l e rm_T_countAhead s m args below meth c H locs 0 0 (MQ below (QvR Q G) args s 0 0 (fr G)) (F0 m 75 ls []) := by
  obtain ⟨hx, hb, hml, hown, hr, hlk, hex, hE⟩ := id E
  intro n
  induction n with
  | zero => exact fun _ _ _ _ _ _ hP _ _ => hP.elim
  | succ n ih =>
    intro v3 v4 z0 ls H locs hP hl hW
    refine lv_iload hx hb d_T_countAhead_75 (lv_at hl 2 rfl) ?_
    refine lv_aload_n hx hb d_T_countAhead_77 rfl (lv_at hl 0 rfl) ?_
    refine ygf_9_8 hx hb hown hE hW (lk_T_34 hE) d_T_countAhead_78 ?_
    refine lv_iload_n hx hb d_T_countAhead_81 rfl (lv_at hl 1 rfl) ?_
    refine lv_iconst (v := 1) hx hb d_T_countAhead_82 (by decide) ?_
    refine lv_iadd hx hb d_T_countAhead_83 ?_
    refine ya_17 hx hb hE hW hP.1 d_T_countAhead_84 ?_
    have hP := hP.2
    refine lv_icmp_ge (tgt := 116) hx hb d_T_countAhead_85 rfl (fun hc => ?_) (fun hc => ?_)
    · have hP := hP.1 hc
      exact hK116 _ _ _ _ _ hP (lv_sub hl [0, 1] rfl) hW
    · have hP := hP.2 hc
      refine lv_aload_n hx hb d_T_countAhead_88 rfl (lv_at hl 0 rfl) ?_
      refine ygf_9_5 hx hb hown hE hW (lk_T_25 hE) d_T_countAhead_89 ?_
      refine lv_iload hx hb d_T_countAhead_92 (lv_at hl 2 rfl) ?_
      refine lv_aload_n hx hb d_T_countAhead_94 rfl (lv_at hl 0 rfl) ?_
      refine lv_iload hx hb d_T_countAhead_95 (lv_at hl 2 rfl) ?_
      refine lv_aload_n hx hb d_T_countAhead_97 rfl (lv_at hl 0 rfl) ?_
      refine ygf_9_0 hx hb hown hE hW (lk_T_51 hE) d_T_countAhead_98 ?_
      refine ygn_1_3 hx hb hown hE hW (lk_T_87 hE) d_T_countAhead_101 ?_
      refine lv_iload_n hx hb d_T_countAhead_104 rfl (lv_at hl 1 rfl) ?_
      refine ya_5 hx hb hE hW hP.1 d_T_countAhead_105 ?_
      have hP := hP.2
      refine yc_l (yV (As := [.int v4, .int (z0.1 5 v3.toNatClampNeg)]) (rest := [.int v4, .ref (ha G 14)]) E (c_T_aheadWithAny _ _ _ _ hP) (cw_T_133 hE) (yrv_9 hE hW) (by decide) hW hl.1 rfl rfl rfl d_T_countAhead_106) hW (fun x12 z11 H locs hP hW => ?_)
      refine ys_14 hx hb hE hW hP.1 d_T_countAhead_109 (fun z13 H locs e_z13 hW => ?_)
      have hP := hP.2
      have hP := hP z13 e_z13
      obtain ⟨x14, e_x14⟩ : ∃ z : Int32, z = v4 + 1 := ⟨_, rfl⟩
      have hP := hP x14 e_x14
      refine lv_iinc (k := 2) (lv' := [(4, .int x14), (0, .ref (ha G 9)), (3, .int v3)]) hx hb d_T_countAhead_110 hl rfl (ii_p1 e_x14) (by decide) rfl (fun ls hl => ?_)
      refine lv_goto (tgt := 75) hx hb d_T_countAhead_113 rfl ?_
      exact ih _ _ _ _ _ _ hP (lv_sub hl [1, 2, 0] rfl) hW
set_option maxHeartbeats 4000000 in
set_option maxRecDepth 100000 in
theorem wL_T_countAhead_63 {Q : St → Prop} (E : En p l s m meth c args cc_T_countAhead 5 R_T none G) :
    ∀ (n : Nat) (v3 : Int32) (z0 : St) (ls : Array Slot) (H : Heap) (locs : List Loc), L_T_countAhead_63 Q n v3 z0 → lv_has ls 5 [(0, .ref (ha G 9)), (3, .int v3)] → Wd G z0 s.heap H locs → W p l e rm_T_countAhead s m args below meth c H locs 0 0 (MQ below (QvR Q G) args s 0 0 (fr G)) (F0 m 63 ls []) := by
  obtain ⟨hx, hb, hml, hown, hr, hlk, hex, hE⟩ := id E
  intro n
  induction n with
  | zero => exact fun _ _ _ _ _ hP _ _ => hP.elim
  | succ n ih =>
    intro v3 z0 ls H locs hP hl hW
    refine lv_iload_n hx hb d_T_countAhead_63 rfl (lv_at hl 1 rfl) ?_
    refine lv_if_lt (tgt := 122) hx hb d_T_countAhead_64 rfl (fun hc => ?_) (fun hc => ?_)
    · have hP := hP.1 hc
      exact yr_v hx hb hr hlk hW hP d_T_countAhead_122
    · have hP := hP.2 hc
      refine lv_aload_n hx hb d_T_countAhead_67 rfl (lv_at hl 0 rfl) ?_
      refine ygf_9_8 hx hb hown hE hW (lk_T_34 hE) d_T_countAhead_68 ?_
      refine lv_iload_n hx hb d_T_countAhead_71 rfl (lv_at hl 1 rfl) ?_
      refine ya_17 hx hb hE hW hP.1 d_T_countAhead_72 ?_
      have hP := hP.2
      refine lv_topi (fun x10 e_x10 => ?_)
      have hP := hP x10 e_x10
      refine lv_istore (lv' := [(4, .int x10), (0, .ref (ha G 9)), (3, .int v3)]) hx hb d_T_countAhead_73 hl (by decide) rfl (fun ls hl => ?_)
      obtain ⟨n2, hP⟩ := hP
      refine wL_T_countAhead_75 E ?_ n2 _ _ _ _ _ _ hP (lv_sub hl [1, 2, 0] rfl) hW
      · intro x15 z16 ls H locs hP hl hW
        obtain ⟨x17, e_x17⟩ : ∃ z : Int32, z = x15 - 1 := ⟨_, rfl⟩
        have hP := hP x17 e_x17
        refine lv_iinc (k := 1) (lv' := [(3, .int x17), (0, .ref (ha G 9))]) hx hb d_T_countAhead_116 hl rfl (ii_m1 e_x17) (by decide) rfl (fun ls hl => ?_)
        refine lv_goto (tgt := 63) hx hb d_T_countAhead_119 rfl ?_
        exact ih _ _ _ _ _ hP (lv_sub hl [1, 0] rfl) hW
set_option maxHeartbeats 4000000 in
set_option maxRecDepth 100000 in
theorem c_T_countAhead {l : Launch} {G : GG} (a2 : Int32) (z0 : St) (Q : St → Prop) (hP : P_T_countAhead a2 z0 Q) : Ctv l y_T_countAhead cc_T_countAhead 5 none rm_T_countAhead G [.ref (ha G 9), .ref (ha G 6), .int a2] z0 Q := by
  refine Ctv.op (own := R_T) (by decide) rfl (Nat.le_of_ble_eq_true rfl) (fun p e s m args below meth c ls E hl hW => ?_)
  obtain ⟨hx, hb, hml, hown, hr, hlk, hex, hE⟩ := id E
  have hl : lv_has ls 5 [(0, .ref (ha G 9)), (1, .ref (ha G 6)), (2, .int a2)] := hl
  refine lv_aload_n hx hb d_T_countAhead_0 rfl (lv_at hl 0 rfl) ?_
  refine ygf_9_8 hx hb hown hE hW (lk_T_34 hE) d_T_countAhead_1 ?_
  refine lv_aload_n hx hb d_T_countAhead_4 rfl (lv_at hl 0 rfl) ?_
  refine ygf_9_0 hx hb hown hE hW (lk_T_51 hE) d_T_countAhead_5 ?_
  refine ygn_1_5 hx hb hown hE hW (lk_T_71 hE) d_T_countAhead_8 ?_
  refine ya_17 hx hb hE hW hP.1 d_T_countAhead_11 ?_
  have hP := hP.2
  refine lv_topi (fun x1 e_x1 => ?_)
  have hP := hP x1 e_x1
  refine lv_istore_n (lv' := [(3, .int x1), (0, .ref (ha G 9)), (1, .ref (ha G 6)), (2, .int a2)]) hx hb d_T_countAhead_12 rfl hl (by decide) rfl (fun ls hl => ?_)
  obtain ⟨n2, hP⟩ := hP
  refine wL_T_countAhead_13 E ?_ n2 _ _ _ _ _ _ hP (lv_sub hl [1, 2, 3, 0] rfl) hW
  · intro z8 ls H locs hP hl hW
    refine lv_aload_n hx hb d_T_countAhead_53 rfl (lv_at hl 0 rfl) ?_
    refine ygf_9_0 hx hb hown hE hW (lk_T_51 hE) d_T_countAhead_54 ?_
    refine ygn_1_5 hx hb hown hE hW (lk_T_71 hE) d_T_countAhead_57 ?_
    refine lv_iconst (v := 1) hx hb d_T_countAhead_60 (by decide) ?_
    refine lv_isub hx hb d_T_countAhead_61 ?_
    refine lv_topi (fun x9 e_x9 => ?_)
    have hP := hP x9 e_x9
    refine lv_istore_n (lv' := [(3, .int x9), (0, .ref (ha G 9))]) hx hb d_T_countAhead_62 rfl hl (by decide) rfl (fun ls hl => ?_)
    obtain ⟨n2, hP⟩ := hP
    refine wL_T_countAhead_63 E n2 _ _ _ _ _ hP (lv_sub hl [1, 0] rfl) hW
theorem d_T_build_0 : decode cc_T_build 0 = .ok (.aload_n 0, 1) := by decide +kernel
theorem d_T_build_1 : decode cc_T_build 1 = .ok (.getfield 31, 3) := by decide +kernel
theorem d_T_build_4 : decode cc_T_build 4 = .ok (.iconst (-1), 1) := by decide +kernel
theorem d_T_build_5 : decode cc_T_build 5 = .ok (.invokestatic 61, 3) := by decide +kernel
theorem d_T_build_8 : decode cc_T_build 8 = .ok (.aload_n 0, 1) := by decide +kernel
theorem d_T_build_9 : decode cc_T_build 9 = .ok (.iconst 0, 1) := by decide +kernel
theorem d_T_build_10 : decode cc_T_build 10 = .ok (.putfield 40, 3) := by decide +kernel
theorem d_T_build_13 : decode cc_T_build 13 = .ok (.aload_n 0, 1) := by decide +kernel
theorem d_T_build_14 : decode cc_T_build 14 = .ok (.iconst 0, 1) := by decide +kernel
theorem d_T_build_15 : decode cc_T_build 15 = .ok (.putfield 44, 3) := by decide +kernel
theorem d_T_build_18 : decode cc_T_build 18 = .ok (.aload_n 0, 1) := by decide +kernel
theorem d_T_build_19 : decode cc_T_build 19 = .ok (.iconst 0, 1) := by decide +kernel
theorem d_T_build_20 : decode cc_T_build 20 = .ok (.putfield 48, 3) := by decide +kernel
theorem d_T_build_23 : decode cc_T_build 23 = .ok (.aload_n 0, 1) := by decide +kernel
theorem d_T_build_24 : decode cc_T_build 24 = .ok (.lconst 0, 1) := by decide +kernel
theorem d_T_build_25 : decode cc_T_build 25 = .ok (.invokevirtual 67, 3) := by decide +kernel
theorem d_T_build_28 : decode cc_T_build 28 = .ok (.pop, 1) := by decide +kernel
theorem d_T_build_29 : decode cc_T_build 29 = .ok (.iconst 0, 1) := by decide +kernel
theorem d_T_build_30 : decode cc_T_build 30 = .ok (.istore_n 3, 1) := by decide +kernel
theorem d_T_build_31 : decode cc_T_build 31 = .ok (.iload_n 3, 1) := by decide +kernel
theorem d_T_build_32 : decode cc_T_build 32 = .ok (.aload_n 0, 1) := by decide +kernel
theorem d_T_build_33 : decode cc_T_build 33 = .ok (.getfield 51, 3) := by decide +kernel
theorem d_T_build_36 : decode cc_T_build 36 = .ok (.getfield 71, 3) := by decide +kernel
theorem d_T_build_39 : decode cc_T_build 39 = .ok (.if_icmp .ge 35, 3) := by decide +kernel
theorem d_T_build_42 : decode cc_T_build 42 = .ok (.aload_n 0, 1) := by decide +kernel
theorem d_T_build_43 : decode cc_T_build 43 = .ok (.getfield 44, 3) := by decide +kernel
theorem d_T_build_46 : decode cc_T_build 46 = .ok (.ifCond .ne 28, 3) := by decide +kernel
theorem d_T_build_49 : decode cc_T_build 49 = .ok (.aload_n 0, 1) := by decide +kernel
theorem d_T_build_50 : decode cc_T_build 50 = .ok (.getfield 34, 3) := by decide +kernel
theorem d_T_build_53 : decode cc_T_build 53 = .ok (.iload_n 3, 1) := by decide +kernel
theorem d_T_build_54 : decode cc_T_build 54 = .ok (.iconst 1, 1) := by decide +kernel
theorem d_T_build_55 : decode cc_T_build 55 = .ok (.iadd, 1) := by decide +kernel
theorem d_T_build_56 : decode cc_T_build 56 = .ok (.aload_n 0, 1) := by decide +kernel
theorem d_T_build_57 : decode cc_T_build 57 = .ok (.getfield 40, 3) := by decide +kernel
theorem d_T_build_60 : decode cc_T_build 60 = .ok (.iastore, 1) := by decide +kernel
theorem d_T_build_61 : decode cc_T_build 61 = .ok (.aload_n 0, 1) := by decide +kernel
theorem d_T_build_62 : decode cc_T_build 62 = .ok (.iload_n 3, 1) := by decide +kernel
theorem d_T_build_63 : decode cc_T_build 63 = .ok (.aload_n 1, 1) := by decide +kernel
theorem d_T_build_64 : decode cc_T_build 64 = .ok (.iload_n 2, 1) := by decide +kernel
theorem d_T_build_65 : decode cc_T_build 65 = .ok (.invokevirtual 76, 3) := by decide +kernel
theorem d_T_build_68 : decode cc_T_build 68 = .ok (.iinc 3 1, 3) := by decide +kernel
theorem d_T_build_71 : decode cc_T_build 71 = .ok (.goto (-40), 3) := by decide +kernel
theorem d_T_build_74 : decode cc_T_build 74 = .ok (.aload_n 0, 1) := by decide +kernel
theorem d_T_build_75 : decode cc_T_build 75 = .ok (.getfield 44, 3) := by decide +kernel
theorem d_T_build_78 : decode cc_T_build 78 = .ok (.ifCond .ne 9, 3) := by decide +kernel
theorem d_T_build_81 : decode cc_T_build 81 = .ok (.aload_n 0, 1) := by decide +kernel
theorem d_T_build_82 : decode cc_T_build 82 = .ok (.aload_n 1, 1) := by decide +kernel
theorem d_T_build_83 : decode cc_T_build 83 = .ok (.iload_n 2, 1) := by decide +kernel
theorem d_T_build_84 : decode cc_T_build 84 = .ok (.invokevirtual 80, 3) := by decide +kernel
theorem d_T_build_87 : decode cc_T_build 87 = .ok (.return_, 1) := by decide +kernel
def L_T_build_31 (K74 : Int32 → St → Prop) (Q : St → Prop) : Nat → Int32 → Int32 → St → Prop
  | 0, _, _, _ => False
  | n + 1, v2, v3, z0 => (((z0.1 1 5) ≤ v3) → K74 v2 z0) ∧ ((¬ (z0.1 1 5) ≤ v3) → ((¬ (z0.1 9 11) = 0) → K74 v2 z0) ∧ (((z0.1 9 11) = 0) → vp_in (v3 + (1 : Int32)) 17 ∧ ∀ z7 : St, z7 = wI z0 17 (v3 + (1 : Int32)).toNatClampNeg (z0.1 9 10) → P_T_addLayer v3 v2 z7 (fun (z8 : St) => ∀ x9 : Int32, x9 = v3 + 1 → L_T_build_31 K74 Q n v2 x9 z8)))
def J_T_build_74 (Q : St → Prop) (v2 : Int32) (z0 : St) : Prop := ((¬ (z0.1 9 11) = 0) → Q z0) ∧ (((z0.1 9 11) = 0) → P_T_countAhead v2 z0 (fun (z12 : St) => Q z12))
def P_T_build (a2 : Int32) (z0 : St) (Q : St → Prop) : Prop := P_A_fill (-1 : Int32) z0 (fun (z1 : St) => ∀ z2 : St, z2 = wI z1 9 10 (0 : Int32) → ∀ z3 : St, z3 = wI z2 9 11 (0 : Int32) → ∀ z4 : St, z4 = wI z3 9 12 (0 : Int32) → P_T_stateOf (0 : Int64) z4 (fun (x6 : Int32) (z5 : St) => ∃ k31 : Nat, L_T_build_31 (fun (x10 : Int32) (z11 : St) => J_T_build_74 Q x10 z11) Q k31 a2 (0 : Int32) z5))
set_option maxHeartbeats 4000000 in
set_option maxRecDepth 100000 in
theorem wL_T_build_31 {K74 : Int32 → St → Prop} {Q : St → Prop} (E : En p l s m meth c args cc_T_build 4 R_T none G)
    (hK74 : ∀ (v2 : Int32) (z0 : St) (ls : Array Slot) (H : Heap) (locs : List Loc), K74 v2 z0 → lv_has ls 4 [(0, .ref (ha G 9)), (1, .ref (ha G 6)), (2, .int v2)] → Wd G z0 s.heap H locs → W p l e rm_T_build s m args below meth c H locs 0 0 (MQ below (QvR Q G) args s 0 0 (fr G)) (F0 m 74 ls [])) :
    ∀ (n : Nat) (v2 : Int32) (v3 : Int32) (z0 : St) (ls : Array Slot) (H : Heap) (locs : List Loc), L_T_build_31 K74 Q n v2 v3 z0 → lv_has ls 4 [(0, .ref (ha G 9)), (1, .ref (ha G 6)), (2, .int v2), (3, .int v3)] → Wd G z0 s.heap H locs → W p l e rm_T_build s m args below meth c H locs 0 0 (MQ below (QvR Q G) args s 0 0 (fr G)) (F0 m 31 ls []) := by
  obtain ⟨hx, hb, hml, hown, hr, hlk, hex, hE⟩ := id E
  intro n
  induction n with
  | zero => exact fun _ _ _ _ _ _ hP _ _ => hP.elim
  | succ n ih =>
    intro v2 v3 z0 ls H locs hP hl hW
    refine lv_iload_n hx hb d_T_build_31 rfl (lv_at hl 3 rfl) ?_
    refine lv_aload_n hx hb d_T_build_32 rfl (lv_at hl 0 rfl) ?_
    refine ygf_9_0 hx hb hown hE hW (lk_T_51 hE) d_T_build_33 ?_
    refine ygn_1_5 hx hb hown hE hW (lk_T_71 hE) d_T_build_36 ?_
    refine lv_icmp_ge (tgt := 74) hx hb d_T_build_39 rfl (fun hc => ?_) (fun hc => ?_)
    · have hP := hP.1 hc
      exact hK74 _ _ _ _ _ hP (lv_sub hl [0, 1, 2] rfl) hW
    · have hP := hP.2 hc
      refine lv_aload_n hx hb d_T_build_42 rfl (lv_at hl 0 rfl) ?_
      refine ygf_9_11 hx hb hown hE hW (lk_T_44 hE) d_T_build_43 ?_
      refine lv_if_ne (tgt := 74) hx hb d_T_build_46 rfl (fun hc => ?_) (fun hc => ?_)
      · have hP := hP.1 hc
        exact hK74 _ _ _ _ _ hP (lv_sub hl [0, 1, 2] rfl) hW
      · have hP := hP.2 hc
        refine lv_aload_n hx hb d_T_build_49 rfl (lv_at hl 0 rfl) ?_
        refine ygf_9_8 hx hb hown hE hW (lk_T_34 hE) d_T_build_50 ?_
        refine lv_iload_n hx hb d_T_build_53 rfl (lv_at hl 3 rfl) ?_
        refine lv_iconst (v := 1) hx hb d_T_build_54 (by decide) ?_
        refine lv_iadd hx hb d_T_build_55 ?_
        refine lv_aload_n hx hb d_T_build_56 rfl (lv_at hl 0 rfl) ?_
        refine ygf_9_10 hx hb hown hE hW (lk_T_40 hE) d_T_build_57 ?_
        refine ys_17 hx hb hE hW hP.1 d_T_build_60 (fun z7 H locs e_z7 hW => ?_)
        have hP := hP.2
        have hP := hP z7 e_z7
        refine lv_aload_n hx hb d_T_build_61 rfl (lv_at hl 0 rfl) ?_
        refine lv_iload_n hx hb d_T_build_62 rfl (lv_at hl 3 rfl) ?_
        refine lv_aload_n hx hb d_T_build_63 rfl (lv_at hl 1 rfl) ?_
        refine lv_iload_n hx hb d_T_build_64 rfl (lv_at hl 2 rfl) ?_
        refine yc_v (yV (As := [.int v3, .ref (ha G 6), .int v2]) (rest := []) E (c_T_addLayer _ _ _ _ hP) (cw_T_76 hE) (yrv_9 hE hW) (by decide) hW hl.1 rfl rfl rfl d_T_build_65) hW (fun z8 H locs hP hW => ?_)
        obtain ⟨x9, e_x9⟩ : ∃ z : Int32, z = v3 + 1 := ⟨_, rfl⟩
        have hP := hP x9 e_x9
        refine lv_iinc (k := 3) (lv' := [(3, .int x9), (0, .ref (ha G 9)), (1, .ref (ha G 6)), (2, .int v2)]) hx hb d_T_build_68 hl rfl (ii_p1 e_x9) (by decide) rfl (fun ls hl => ?_)
        refine lv_goto (tgt := 31) hx hb d_T_build_71 rfl ?_
        exact ih _ _ _ _ _ _ hP (lv_sub hl [1, 2, 3, 0] rfl) hW
set_option maxHeartbeats 4000000 in
set_option maxRecDepth 100000 in
theorem wJ_T_build_74 {Q : St → Prop} (E : En p l s m meth c args cc_T_build 4 R_T none G)
    (v2 : Int32) (z0 : St) (ls : Array Slot) (H : Heap) (locs : List Loc) (hP : J_T_build_74 Q v2 z0) (hl : lv_has ls 4 [(0, .ref (ha G 9)), (1, .ref (ha G 6)), (2, .int v2)]) (hW : Wd G z0 s.heap H locs) : W p l e rm_T_build s m args below meth c H locs 0 0 (MQ below (QvR Q G) args s 0 0 (fr G)) (F0 m 74 ls []) := by
  obtain ⟨hx, hb, hml, hown, hr, hlk, hex, hE⟩ := id E
  refine lv_aload_n hx hb d_T_build_74 rfl (lv_at hl 0 rfl) ?_
  refine ygf_9_11 hx hb hown hE hW (lk_T_44 hE) d_T_build_75 ?_
  refine lv_if_ne (tgt := 87) hx hb d_T_build_78 rfl (fun hc => ?_) (fun hc => ?_)
  · have hP := hP.1 hc
    exact yr_v hx hb hr hlk hW hP d_T_build_87
  · have hP := hP.2 hc
    refine lv_aload_n hx hb d_T_build_81 rfl (lv_at hl 0 rfl) ?_
    refine lv_aload_n hx hb d_T_build_82 rfl (lv_at hl 1 rfl) ?_
    refine lv_iload_n hx hb d_T_build_83 rfl (lv_at hl 2 rfl) ?_
    refine yc_v (yV (As := [.ref (ha G 6), .int v2]) (rest := []) E (c_T_countAhead _ _ _ hP) (cw_T_80 hE) (yrv_9 hE hW) (by decide) hW hl.1 rfl rfl rfl d_T_build_84) hW (fun z12 H locs hP hW => ?_)
    exact yr_v hx hb hr hlk hW hP d_T_build_87
set_option maxHeartbeats 4000000 in
set_option maxRecDepth 100000 in
theorem c_T_build {l : Launch} {G : GG} (a2 : Int32) (z0 : St) (Q : St → Prop) (hP : P_T_build a2 z0 Q) : Ctv l y_T_build cc_T_build 4 none rm_T_build G [.ref (ha G 9), .ref (ha G 6), .int a2] z0 Q := by
  refine Ctv.op (own := R_T) (by decide) rfl (Nat.le_of_ble_eq_true rfl) (fun p e s m args below meth c ls E hl hW => ?_)
  obtain ⟨hx, hb, hml, hown, hr, hlk, hex, hE⟩ := id E
  have hl : lv_has ls 4 [(0, .ref (ha G 9)), (1, .ref (ha G 6)), (2, .int a2)] := hl
  refine lv_aload_n hx hb d_T_build_0 rfl (lv_at hl 0 rfl) ?_
  refine ygf_9_7 hx hb hown hE hW (lk_T_31 hE) d_T_build_1 ?_
  refine lv_iconst (v := -1) hx hb d_T_build_4 (by decide) ?_
  refine yc_v (yS (As := [.ref (ha G 16), .int (-1 : Int32)]) (rest := []) E (c_A_fill _ _ _ hP) (cw_T_61 hE) (by decide) hW hl.1 rfl rfl rfl d_T_build_5) hW (fun z1 H locs hP hW => ?_)
  refine lv_aload_n hx hb d_T_build_8 rfl (lv_at hl 0 rfl) ?_
  refine lv_iconst (v := 0) hx hb d_T_build_9 (by decide) ?_
  refine ypf_9_10 hx hb hown hE hW (lk_T_40 hE) d_T_build_10 (fun z2 H locs e_z2 hW => ?_)
  have hP := hP z2 e_z2
  refine lv_aload_n hx hb d_T_build_13 rfl (lv_at hl 0 rfl) ?_
  refine lv_iconst (v := 0) hx hb d_T_build_14 (by decide) ?_
  refine ypf_9_11 hx hb hown hE hW zb_0 (lk_T_44 hE) d_T_build_15 (fun z3 H locs e_z3 hW => ?_)
  have hP := hP z3 e_z3
  refine lv_aload_n hx hb d_T_build_18 rfl (lv_at hl 0 rfl) ?_
  refine lv_iconst (v := 0) hx hb d_T_build_19 (by decide) ?_
  refine ypf_9_12 hx hb hown hE hW zb_0 (lk_T_48 hE) d_T_build_20 (fun z4 H locs e_z4 hW => ?_)
  have hP := hP z4 e_z4
  refine lv_aload_n hx hb d_T_build_23 rfl (lv_at hl 0 rfl) ?_
  refine lv_lconst (v := 0) hx hb d_T_build_24 (by decide) ?_
  refine yc_i (yV (As := [.long (0 : Int64)]) (rest := []) E (c_T_stateOf _ _ _ hP) (cw_T_67 hE) (yrv_9 hE hW) (by decide) hW hl.1 rfl rfl rfl d_T_build_25) hW (fun x6 z5 H locs hP hW => ?_)
  refine lv_pop hx hb d_T_build_28 rfl ?_
  refine lv_iconst (v := 0) hx hb d_T_build_29 (by decide) ?_
  refine lv_istore_n (lv' := [(3, .int (0 : Int32)), (0, .ref (ha G 9)), (1, .ref (ha G 6)), (2, .int a2)]) hx hb d_T_build_30 rfl hl (by decide) rfl (fun ls hl => ?_)
  obtain ⟨n2, hP⟩ := hP
  refine wL_T_build_31 E ?_ n2 _ _ _ _ _ _ hP (lv_sub hl [1, 2, 3, 0] rfl) hW
  · intro x10 z11 ls H locs hP hl hW
    exact wJ_T_build_74 E _ _ _ _ _ hP hl hW
theorem d_O_refreshTally_0 : decode cc_O_refreshTally 0 = .ok (.aload_n 0, 1) := by decide +kernel
theorem d_O_refreshTally_1 : decode cc_O_refreshTally 1 = .ok (.getfield 76, 3) := by decide +kernel
theorem d_O_refreshTally_4 : decode cc_O_refreshTally 4 = .ok (.ifCond .ne 23, 3) := by decide +kernel
theorem d_O_refreshTally_7 : decode cc_O_refreshTally 7 = .ok (.aload_n 0, 1) := by decide +kernel
theorem d_O_refreshTally_8 : decode cc_O_refreshTally 8 = .ok (.getfield 28, 3) := by decide +kernel
theorem d_O_refreshTally_11 : decode cc_O_refreshTally 11 = .ok (.aload_n 0, 1) := by decide +kernel
theorem d_O_refreshTally_12 : decode cc_O_refreshTally 12 = .ok (.getfield 19, 3) := by decide +kernel
theorem d_O_refreshTally_15 : decode cc_O_refreshTally 15 = .ok (.aload_n 0, 1) := by decide +kernel
theorem d_O_refreshTally_16 : decode cc_O_refreshTally 16 = .ok (.getfield 68, 3) := by decide +kernel
theorem d_O_refreshTally_19 : decode cc_O_refreshTally 19 = .ok (.invokevirtual 288, 3) := by decide +kernel
theorem d_O_refreshTally_22 : decode cc_O_refreshTally 22 = .ok (.aload_n 0, 1) := by decide +kernel
theorem d_O_refreshTally_23 : decode cc_O_refreshTally 23 = .ok (.iconst 1, 1) := by decide +kernel
theorem d_O_refreshTally_24 : decode cc_O_refreshTally 24 = .ok (.putfield 76, 3) := by decide +kernel
theorem d_O_refreshTally_27 : decode cc_O_refreshTally 27 = .ok (.return_, 1) := by decide +kernel
def P_O_refreshTally (z0 : St) (Q : St → Prop) : Prop := ((¬ (z0.1 0 10) = 0) → Q z0) ∧ (((z0.1 0 10) = 0) → P_T_build (z0.1 0 8) z0 (fun (z1 : St) => ∀ z2 : St, z2 = wI z1 0 10 (1 : Int32) → Q z2))
set_option maxHeartbeats 4000000 in
set_option maxRecDepth 100000 in
theorem c_O_refreshTally {l : Launch} {G : GG} (z0 : St) (Q : St → Prop) (hP : P_O_refreshTally z0 Q) : Ctv l y_O_refreshTally cc_O_refreshTally 1 none rm_O_refreshTally G [.ref (ha G 0)] z0 Q := by
  refine Ctv.op (own := R_O) (by decide) rfl (Nat.le_of_ble_eq_true rfl) (fun p e s m args below meth c ls E hl hW => ?_)
  obtain ⟨hx, hb, hml, hown, hr, hlk, hex, hE⟩ := id E
  have hl : lv_has ls 1 [(0, .ref (ha G 0))] := hl
  refine lv_aload_n hx hb d_O_refreshTally_0 rfl (lv_at hl 0 rfl) ?_
  refine ygf_0_10 hx hb hown hE hW (lk_O_76 hE) d_O_refreshTally_1 ?_
  refine lv_if_ne (tgt := 27) hx hb d_O_refreshTally_4 rfl (fun hc => ?_) (fun hc => ?_)
  · have hP := hP.1 hc
    exact yr_v hx hb hr hlk hW hP d_O_refreshTally_27
  · have hP := hP.2 hc
    refine lv_aload_n hx hb d_O_refreshTally_7 rfl (lv_at hl 0 rfl) ?_
    refine ygf_0_2 hx hb hown hE hW (lk_O_28 hE) d_O_refreshTally_8 ?_
    refine lv_aload_n hx hb d_O_refreshTally_11 rfl (lv_at hl 0 rfl) ?_
    refine ygf_0_1 hx hb hown hE hW (lk_O_19 hE) d_O_refreshTally_12 ?_
    refine lv_aload_n hx hb d_O_refreshTally_15 rfl (lv_at hl 0 rfl) ?_
    refine ygf_0_8 hx hb hown hE hW (lk_O_68 hE) d_O_refreshTally_16 ?_
    refine yc_v (yV (As := [.ref (ha G 6), .int (z0.1 0 8)]) (rest := []) E (c_T_build _ _ _ hP) (cw_O_288 hE) (yrv_9 hE hW) (by decide) hW hl.1 rfl rfl rfl d_O_refreshTally_19) hW (fun z1 H locs hP hW => ?_)
    refine lv_aload_n hx hb d_O_refreshTally_22 rfl (lv_at hl 0 rfl) ?_
    refine lv_iconst (v := 1) hx hb d_O_refreshTally_23 (by decide) ?_
    refine ypf_0_10 hx hb hown hE hW zb_1 (lk_O_76 hE) d_O_refreshTally_24 (fun z2 H locs e_z2 hW => ?_)
    have hP := hP z2 e_z2
    exact yr_v hx hb hr hlk hW hP d_O_refreshTally_27
theorem d_T_isRefused_0 : decode cc_T_isRefused 0 = .ok (.aload_n 0, 1) := by decide +kernel
theorem d_T_isRefused_1 : decode cc_T_isRefused 1 = .ok (.getfield 44, 3) := by decide +kernel
theorem d_T_isRefused_4 : decode cc_T_isRefused 4 = .ok (.ireturn, 1) := by decide +kernel
def P_T_isRefused (z0 : St) (Q : Int32 → St → Prop) : Prop := zb (z0.1 9 11) ∧ Q (z0.1 9 11) z0
set_option maxHeartbeats 4000000 in
set_option maxRecDepth 100000 in
theorem c_T_isRefused {l : Launch} {G : GG} (z0 : St) (Q : Int32 → St → Prop) (hP : P_T_isRefused z0 Q) : Cti l y_T_isRefused cc_T_isRefused 1 (some .boolean) rm_T_isRefused G [.ref (ha G 9)] z0 Q := by
  refine Cti.op (own := R_T) (by decide) rfl (Nat.le_of_ble_eq_true rfl) (fun p e s m args below meth c ls E hl hW => ?_)
  obtain ⟨hx, hb, hml, hown, hr, hlk, hex, hE⟩ := id E
  have hl : lv_has ls 1 [(0, .ref (ha G 9))] := hl
  refine lv_aload_n hx hb d_T_isRefused_0 rfl (lv_at hl 0 rfl) ?_
  refine ygf_9_11 hx hb hown hE hW (lk_T_44 hE) d_T_isRefused_1 ?_
  exact yr_z hx hb hr hlk hW hP.1 hP.2 d_T_isRefused_4
theorem d_O_requireCountable_0 : decode cc_O_requireCountable 0 = .ok (.aload_n 0, 1) := by decide +kernel
theorem d_O_requireCountable_1 : decode cc_O_requireCountable 1 = .ok (.invokevirtual 144, 3) := by decide +kernel
theorem d_O_requireCountable_4 : decode cc_O_requireCountable 4 = .ok (.aload_n 0, 1) := by decide +kernel
theorem d_O_requireCountable_5 : decode cc_O_requireCountable 5 = .ok (.getfield 28, 3) := by decide +kernel
theorem d_O_requireCountable_8 : decode cc_O_requireCountable 8 = .ok (.invokevirtual 147, 3) := by decide +kernel
theorem d_O_requireCountable_11 : decode cc_O_requireCountable 11 = .ok (.ifCond .eq 14, 3) := by decide +kernel
theorem d_O_requireCountable_14 : decode cc_O_requireCountable 14 = .ok (.new 177, 3) := by decide +kernel
theorem d_O_requireCountable_17 : decode cc_O_requireCountable 17 = .ok (.dup, 1) := by decide +kernel
theorem d_O_requireCountable_18 : decode cc_O_requireCountable 18 = .ok (.ldc_w 298, 3) := by decide +kernel
theorem d_O_requireCountable_21 : decode cc_O_requireCountable 21 = .ok (.invokespecial 181, 3) := by decide +kernel
theorem d_O_requireCountable_24 : decode cc_O_requireCountable 24 = .ok (.athrow, 1) := by decide +kernel
theorem d_O_requireCountable_25 : decode cc_O_requireCountable 25 = .ok (.return_, 1) := by decide +kernel
def P_O_requireCountable (z0 : St) (Q : St → Prop) (X : Nat → St → Prop) : Prop := P_O_refreshTally z0 (fun (z1 : St) => P_T_isRefused z1 (fun (x3 : Int32) (z2 : St) => ((x3 = 0) → Q z2) ∧ ((¬ x3 = 0) → X 3 z2)))
set_option maxHeartbeats 4000000 in
set_option maxRecDepth 100000 in
theorem c_O_requireCountable {l : Launch} {G : GG} (z0 : St) (Q : St → Prop) (X : Nat → St → Prop) (hP : P_O_requireCountable z0 Q X) : CtvX l y_O_requireCountable cc_O_requireCountable 1 none rm_O_requireCountable G [.ref (ha G 0)] z0 Q X := by
  refine CtvX.op (own := R_O) (by decide) rfl (Nat.le_of_ble_eq_true rfl) (fun p e s m args below meth c ls E hl hW => ?_)
  obtain ⟨hx, hb, hml, hown, hr, hlk, hex, hE⟩ := id E
  have hl : lv_has ls 1 [(0, .ref (ha G 0))] := hl
  refine lv_aload_n hx hb d_O_requireCountable_0 rfl (lv_at hl 0 rfl) ?_
  refine yc_v (yV (As := []) (rest := []) E (c_O_refreshTally _ _ hP) (cw_O_144 hE) (yrv_0 hE hW) (by decide) hW hl.1 rfl rfl rfl d_O_requireCountable_1) hW (fun z1 H locs hP hW => ?_)
  refine lv_aload_n hx hb d_O_requireCountable_4 rfl (lv_at hl 0 rfl) ?_
  refine ygf_0_2 hx hb hown hE hW (lk_O_28 hE) d_O_requireCountable_5 ?_
  refine yc_i (yV (As := []) (rest := []) E (c_T_isRefused _ _ hP) (cw_O_147 hE) (yrv_9 hE hW) (by decide) hW hl.1 rfl rfl rfl d_O_requireCountable_8) hW (fun x3 z2 H locs hP hW => ?_)
  refine lv_if_eq (tgt := 25) hx hb d_O_requireCountable_11 rfl (fun hc => ?_) (fun hc => ?_)
  · have hP := hP.1 hc
    exact yr_vX hx hb hr hlk hW hP d_O_requireCountable_25
  · have hP := hP.2 hc
    exact yt (k := 3) hx hb hown hlk hex hE hW hl.1 hml (by decide) (by decide) (fun _ h => lt_O_3_298 h) d_O_requireCountable_14 d_O_requireCountable_17 (Or.inr ⟨d_O_requireCountable_18, rfl⟩) d_O_requireCountable_21 d_O_requireCountable_24 hP (fun _ _ h1 h2 => Or.inr ⟨h1, h2⟩)
theorem d_T_panels_0 : decode cc_T_panels 0 = .ok (.aload_n 0, 1) := by decide +kernel
theorem d_T_panels_1 : decode cc_T_panels 1 = .ok (.getfield 25, 3) := by decide +kernel
theorem d_T_panels_4 : decode cc_T_panels 4 = .ok (.iconst 0, 1) := by decide +kernel
theorem d_T_panels_5 : decode cc_T_panels 5 = .ok (.laload, 1) := by decide +kernel
theorem d_T_panels_6 : decode cc_T_panels 6 = .ok (.lreturn, 1) := by decide +kernel
def P_T_panels (z0 : St) (Q : Int64 → St → Prop) : Prop := vp_in (0 : Int32) 1001 ∧ Q (z0.2 14 (0 : Int32).toNatClampNeg) z0
set_option maxHeartbeats 4000000 in
set_option maxRecDepth 100000 in
theorem c_T_panels {l : Launch} {G : GG} (z0 : St) (Q : Int64 → St → Prop) (hP : P_T_panels z0 Q) : Ctl l y_T_panels cc_T_panels 1 (some .long) rm_T_panels G [.ref (ha G 9)] z0 Q := by
  refine Ctl.op (own := R_T) (by decide) rfl (Nat.le_of_ble_eq_true rfl) (fun p e s m args below meth c ls E hl hW => ?_)
  obtain ⟨hx, hb, hml, hown, hr, hlk, hex, hE⟩ := id E
  have hl : lv_has ls 1 [(0, .ref (ha G 9))] := hl
  refine lv_aload_n hx hb d_T_panels_0 rfl (lv_at hl 0 rfl) ?_
  refine ygf_9_5 hx hb hown hE hW (lk_T_25 hE) d_T_panels_1 ?_
  refine lv_iconst (v := 0) hx hb d_T_panels_4 (by decide) ?_
  refine ya_14 hx hb hE hW hP.1 d_T_panels_5 ?_
  have hP := hP.2
  exact yr_l hx hb hr hlk hW hP d_T_panels_6
theorem d_O_count_0 : decode cc_O_count 0 = .ok (.aload_n 0, 1) := by decide +kernel
theorem d_O_count_1 : decode cc_O_count 1 = .ok (.invokevirtual 137, 3) := by decide +kernel
theorem d_O_count_4 : decode cc_O_count 4 = .ok (.aload_n 0, 1) := by decide +kernel
theorem d_O_count_5 : decode cc_O_count 5 = .ok (.getfield 28, 3) := by decide +kernel
theorem d_O_count_8 : decode cc_O_count 8 = .ok (.invokevirtual 140, 3) := by decide +kernel
theorem d_O_count_11 : decode cc_O_count 11 = .ok (.lreturn, 1) := by decide +kernel
def P_O_count (z0 : St) (Q : Int64 → St → Prop) (X : Nat → St → Prop) : Prop := P_O_requireCountable z0 (fun (z1 : St) => P_T_panels z1 (fun (x3 : Int64) (z2 : St) => Q x3 z2)) X
set_option maxHeartbeats 4000000 in
set_option maxRecDepth 100000 in
theorem c_O_count {l : Launch} {G : GG} (z0 : St) (Q : Int64 → St → Prop) (X : Nat → St → Prop) (hP : P_O_count z0 Q X) : CtlX l y_O_count cc_O_count 1 (some .long) rm_O_count G [.ref (ha G 0)] z0 Q X := by
  refine CtlX.op (own := R_O) (by decide) rfl (Nat.le_of_ble_eq_true rfl) (fun p e s m args below meth c ls E hl hW => ?_)
  obtain ⟨hx, hb, hml, hown, hr, hlk, hex, hE⟩ := id E
  have hl : lv_has ls 1 [(0, .ref (ha G 0))] := hl
  refine lv_aload_n hx hb d_O_count_0 rfl (lv_at hl 0 rfl) ?_
  refine yx_v (yVX (As := []) (rest := []) E (c_O_requireCountable _ _ _ hP) (cw_O_137 hE) (yrv_0 hE hW) (by decide) hW hl.1 rfl rfl rfl d_O_count_1) hW (fun z1 H locs hP hW => ?_) hlk hex (fun _ _ h1 h2 => Or.inr ⟨h1, h2⟩)
  refine lv_aload_n hx hb d_O_count_4 rfl (lv_at hl 0 rfl) ?_
  refine ygf_0_2 hx hb hown hE hW (lk_O_28 hE) d_O_count_5 ?_
  refine yc_l (yV (As := []) (rest := []) E (c_T_panels _ _ hP) (cw_O_140 hE) (yrv_9 hE hW) (by decide) hW hl.1 rfl rfl rfl d_O_count_8) hW (fun x3 z2 H locs hP hW => ?_)
  exact yr_lX hx hb hr hlk hW hP d_O_count_11
theorem d_T_statesFound_0 : decode cc_T_statesFound 0 = .ok (.aload_n 0, 1) := by decide +kernel
theorem d_T_statesFound_1 : decode cc_T_statesFound 1 = .ok (.getfield 40, 3) := by decide +kernel
theorem d_T_statesFound_4 : decode cc_T_statesFound 4 = .ok (.iconst 1, 1) := by decide +kernel
theorem d_T_statesFound_5 : decode cc_T_statesFound 5 = .ok (.isub, 1) := by decide +kernel
theorem d_T_statesFound_6 : decode cc_T_statesFound 6 = .ok (.ireturn, 1) := by decide +kernel
def P_T_statesFound (z0 : St) (Q : Int32 → St → Prop) : Prop := Q ((z0.1 9 10) - (1 : Int32)) z0
set_option maxHeartbeats 4000000 in
set_option maxRecDepth 100000 in
theorem c_T_statesFound {l : Launch} {G : GG} (z0 : St) (Q : Int32 → St → Prop) (hP : P_T_statesFound z0 Q) : Cti l y_T_statesFound cc_T_statesFound 1 (some .int) rm_T_statesFound G [.ref (ha G 9)] z0 Q := by
  refine Cti.op (own := R_T) (by decide) rfl (Nat.le_of_ble_eq_true rfl) (fun p e s m args below meth c ls E hl hW => ?_)
  obtain ⟨hx, hb, hml, hown, hr, hlk, hex, hE⟩ := id E
  have hl : lv_has ls 1 [(0, .ref (ha G 9))] := hl
  refine lv_aload_n hx hb d_T_statesFound_0 rfl (lv_at hl 0 rfl) ?_
  refine ygf_9_10 hx hb hown hE hW (lk_T_40 hE) d_T_statesFound_1 ?_
  refine lv_iconst (v := 1) hx hb d_T_statesFound_4 (by decide) ?_
  refine lv_isub hx hb d_T_statesFound_5 ?_
  exact yr_i hx hb hr hlk hW hP d_T_statesFound_6
theorem d_O_states_0 : decode cc_O_states 0 = .ok (.aload_n 0, 1) := by decide +kernel
theorem d_O_states_1 : decode cc_O_states 1 = .ok (.invokevirtual 144, 3) := by decide +kernel
theorem d_O_states_4 : decode cc_O_states 4 = .ok (.aload_n 0, 1) := by decide +kernel
theorem d_O_states_5 : decode cc_O_states 5 = .ok (.getfield 28, 3) := by decide +kernel
theorem d_O_states_8 : decode cc_O_states 8 = .ok (.invokevirtual 147, 3) := by decide +kernel
theorem d_O_states_11 : decode cc_O_states 11 = .ok (.ifCond .eq 7, 3) := by decide +kernel
theorem d_O_states_14 : decode cc_O_states 14 = .ok (.iconst (-1), 1) := by decide +kernel
theorem d_O_states_15 : decode cc_O_states 15 = .ok (.goto 10, 3) := by decide +kernel
theorem d_O_states_18 : decode cc_O_states 18 = .ok (.aload_n 0, 1) := by decide +kernel
theorem d_O_states_19 : decode cc_O_states 19 = .ok (.getfield 28, 3) := by decide +kernel
theorem d_O_states_22 : decode cc_O_states 22 = .ok (.invokevirtual 151, 3) := by decide +kernel
theorem d_O_states_25 : decode cc_O_states 25 = .ok (.ireturn, 1) := by decide +kernel
def P_O_states (z0 : St) (Q : Int32 → St → Prop) : Prop := P_O_refreshTally z0 (fun (z1 : St) => P_T_isRefused z1 (fun (x3 : Int32) (z2 : St) => ((x3 = 0) → P_T_statesFound z2 (fun (x5 : Int32) (z4 : St) => Q x5 z4)) ∧ ((¬ x3 = 0) → Q (-1 : Int32) z2)))
set_option maxHeartbeats 4000000 in
set_option maxRecDepth 100000 in
theorem c_O_states {l : Launch} {G : GG} (z0 : St) (Q : Int32 → St → Prop) (hP : P_O_states z0 Q) : Cti l y_O_states cc_O_states 1 (some .int) rm_O_states G [.ref (ha G 0)] z0 Q := by
  refine Cti.op (own := R_O) (by decide) rfl (Nat.le_of_ble_eq_true rfl) (fun p e s m args below meth c ls E hl hW => ?_)
  obtain ⟨hx, hb, hml, hown, hr, hlk, hex, hE⟩ := id E
  have hl : lv_has ls 1 [(0, .ref (ha G 0))] := hl
  refine lv_aload_n hx hb d_O_states_0 rfl (lv_at hl 0 rfl) ?_
  refine yc_v (yV (As := []) (rest := []) E (c_O_refreshTally _ _ hP) (cw_O_144 hE) (yrv_0 hE hW) (by decide) hW hl.1 rfl rfl rfl d_O_states_1) hW (fun z1 H locs hP hW => ?_)
  refine lv_aload_n hx hb d_O_states_4 rfl (lv_at hl 0 rfl) ?_
  refine ygf_0_2 hx hb hown hE hW (lk_O_28 hE) d_O_states_5 ?_
  refine yc_i (yV (As := []) (rest := []) E (c_T_isRefused _ _ hP) (cw_O_147 hE) (yrv_9 hE hW) (by decide) hW hl.1 rfl rfl rfl d_O_states_8) hW (fun x3 z2 H locs hP hW => ?_)
  refine lv_if_eq (tgt := 18) hx hb d_O_states_11 rfl (fun hc => ?_) (fun hc => ?_)
  · have hP := hP.1 hc
    refine lv_aload_n hx hb d_O_states_18 rfl (lv_at hl 0 rfl) ?_
    refine ygf_0_2 hx hb hown hE hW (lk_O_28 hE) d_O_states_19 ?_
    refine yc_i (yV (As := []) (rest := []) E (c_T_statesFound _ _ hP) (cw_O_151 hE) (yrv_9 hE hW) (by decide) hW hl.1 rfl rfl rfl d_O_states_22) hW (fun x5 z4 H locs hP hW => ?_)
    exact yr_i hx hb hr hlk hW hP d_O_states_25
  · have hP := hP.2 hc
    refine lv_iconst (v := -1) hx hb d_O_states_14 (by decide) ?_
    refine lv_goto (tgt := 25) hx hb d_O_states_15 rfl ?_
    exact yr_i hx hb hr hlk hW hP d_O_states_25
theorem d_O_requirePerson_0 : decode cc_O_requirePerson 0 = .ok (.iload_n 1, 1) := by decide +kernel
theorem d_O_requirePerson_1 : decode cc_O_requirePerson 1 = .ok (.ifCond .lt 14, 3) := by decide +kernel
theorem d_O_requirePerson_4 : decode cc_O_requirePerson 4 = .ok (.iload_n 1, 1) := by decide +kernel
theorem d_O_requirePerson_5 : decode cc_O_requirePerson 5 = .ok (.aload_n 0, 1) := by decide +kernel
theorem d_O_requirePerson_6 : decode cc_O_requirePerson 6 = .ok (.getfield 12, 3) := by decide +kernel
theorem d_O_requirePerson_9 : decode cc_O_requirePerson 9 = .ok (.getfield 300, 3) := by decide +kernel
theorem d_O_requirePerson_12 : decode cc_O_requirePerson 12 = .ok (.if_icmp .lt 14, 3) := by decide +kernel
theorem d_O_requirePerson_15 : decode cc_O_requirePerson 15 = .ok (.new 87, 3) := by decide +kernel
theorem d_O_requirePerson_18 : decode cc_O_requirePerson 18 = .ok (.dup, 1) := by decide +kernel
theorem d_O_requirePerson_19 : decode cc_O_requirePerson 19 = .ok (.ldc_w 303, 3) := by decide +kernel
theorem d_O_requirePerson_22 : decode cc_O_requirePerson 22 = .ok (.invokespecial 91, 3) := by decide +kernel
theorem d_O_requirePerson_25 : decode cc_O_requirePerson 25 = .ok (.athrow, 1) := by decide +kernel
theorem d_O_requirePerson_26 : decode cc_O_requirePerson 26 = .ok (.return_, 1) := by decide +kernel
def P_O_requirePerson (a1 : Int32) (z0 : St) (Q : St → Prop) (X : Nat → St → Prop) : Prop := ((a1 < 0) → X 0 z0) ∧ ((¬ a1 < 0) → ((a1 < (z0.1 1 4)) → Q z0) ∧ ((¬ a1 < (z0.1 1 4)) → X 0 z0))
set_option maxHeartbeats 4000000 in
set_option maxRecDepth 100000 in
theorem c_O_requirePerson {l : Launch} {G : GG} (a1 : Int32) (z0 : St) (Q : St → Prop) (X : Nat → St → Prop) (hP : P_O_requirePerson a1 z0 Q X) : CtvX l y_O_requirePerson cc_O_requirePerson 2 none rm_O_requirePerson G [.ref (ha G 0), .int a1] z0 Q X := by
  refine CtvX.op (own := R_O) (by decide) rfl (Nat.le_of_ble_eq_true rfl) (fun p e s m args below meth c ls E hl hW => ?_)
  obtain ⟨hx, hb, hml, hown, hr, hlk, hex, hE⟩ := id E
  have hl : lv_has ls 2 [(0, .ref (ha G 0)), (1, .int a1)] := hl
  refine lv_iload_n hx hb d_O_requirePerson_0 rfl (lv_at hl 1 rfl) ?_
  refine lv_if_lt (tgt := 15) hx hb d_O_requirePerson_1 rfl (fun hc => ?_) (fun hc => ?_)
  · have hP := hP.1 hc
    exact yt (k := 0) hx hb hown hlk hex hE hW hl.1 hml (by decide) (by decide) (fun _ h => lt_O_0_303 h) d_O_requirePerson_15 d_O_requirePerson_18 (Or.inr ⟨d_O_requirePerson_19, rfl⟩) d_O_requirePerson_22 d_O_requirePerson_25 hP (fun _ _ h1 h2 => Or.inr ⟨h1, h2⟩)
  · have hP := hP.2 hc
    refine lv_iload_n hx hb d_O_requirePerson_4 rfl (lv_at hl 1 rfl) ?_
    refine lv_aload_n hx hb d_O_requirePerson_5 rfl (lv_at hl 0 rfl) ?_
    refine ygf_0_0 hx hb hown hE hW (lk_O_12 hE) d_O_requirePerson_6 ?_
    refine ygn_1_4 hx hb hown hE hW (lk_O_300 hE) d_O_requirePerson_9 ?_
    refine lv_icmp_lt (tgt := 26) hx hb d_O_requirePerson_12 rfl (fun hc => ?_) (fun hc => ?_)
    · have hP := hP.1 hc
      exact yr_vX hx hb hr hlk hW hP d_O_requirePerson_26
    · have hP := hP.2 hc
      exact yt (k := 0) hx hb hown hlk hex hE hW hl.1 hml (by decide) (by decide) (fun _ h => lt_O_0_303 h) d_O_requirePerson_15 d_O_requirePerson_18 (Or.inr ⟨d_O_requirePerson_19, rfl⟩) d_O_requirePerson_22 d_O_requirePerson_25 hP (fun _ _ h1 h2 => Or.inr ⟨h1, h2⟩)
theorem d_P_kindOf_0 : decode cc_P_kindOf 0 = .ok (.aload_n 0, 1) := by decide +kernel
theorem d_P_kindOf_1 : decode cc_P_kindOf 1 = .ok (.aload_n 0, 1) := by decide +kernel
theorem d_P_kindOf_2 : decode cc_P_kindOf 2 = .ok (.getfield 15, 3) := by decide +kernel
theorem d_P_kindOf_5 : decode cc_P_kindOf 5 = .ok (.iload_n 1, 1) := by decide +kernel
theorem d_P_kindOf_6 : decode cc_P_kindOf 6 = .ok (.iaload, 1) := by decide +kernel
theorem d_P_kindOf_7 : decode cc_P_kindOf 7 = .ok (.invokevirtual 46, 3) := by decide +kernel
theorem d_P_kindOf_10 : decode cc_P_kindOf 10 = .ok (.ireturn, 1) := by decide +kernel
def P_P_kindOf (a1 : Int32) (z0 : St) (Q : Int32 → St → Prop) : Prop := vp_in a1 40 ∧ P_P_kindsBelow (z0.1 3 a1.toNatClampNeg) z0 (fun (x2 : Int32) (z1 : St) => Q x2 z1)
set_option maxHeartbeats 4000000 in
set_option maxRecDepth 100000 in
theorem c_P_kindOf {l : Launch} {G : GG} (a1 : Int32) (z0 : St) (Q : Int32 → St → Prop) (hP : P_P_kindOf a1 z0 Q) : Cti l y_P_kindOf cc_P_kindOf 2 (some .int) rm_P_kindOf G [.ref (ha G 1), .int a1] z0 Q := by
  refine Cti.op (own := R_P) (by decide) rfl (Nat.le_of_ble_eq_true rfl) (fun p e s m args below meth c ls E hl hW => ?_)
  obtain ⟨hx, hb, hml, hown, hr, hlk, hex, hE⟩ := id E
  have hl : lv_has ls 2 [(0, .ref (ha G 1)), (1, .int a1)] := hl
  refine lv_aload_n hx hb d_P_kindOf_0 rfl (lv_at hl 0 rfl) ?_
  refine lv_aload_n hx hb d_P_kindOf_1 rfl (lv_at hl 0 rfl) ?_
  refine ygf_1_1 hx hb hown hE hW (lk_P_15 hE) d_P_kindOf_2 ?_
  refine lv_iload_n hx hb d_P_kindOf_5 rfl (lv_at hl 1 rfl) ?_
  refine ya_3 hx hb hE hW hP.1 d_P_kindOf_6 ?_
  have hP := hP.2
  refine yc_i (yV (As := [.int (z0.1 3 a1.toNatClampNeg)]) (rest := []) E (c_P_kindsBelow _ _ _ hP) (cw_P_46 hE) (yrv_1 hE hW) (by decide) hW hl.1 rfl rfl rfl d_P_kindOf_7) hW (fun x2 z1 H locs hP hW => ?_)
  exact yr_i hx hb hr hlk hW hP d_P_kindOf_10
end Code
