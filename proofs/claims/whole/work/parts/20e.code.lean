/-! O_mark, R_membersOf, R_indexIn, R_rankOf, O_rank, S_hasEmptyPlace, A_fill3, S_addValuesOf, Q_breachBy, S_breachWith, S_listCandidates, O_goalNow, D_begin -/
section Code
variable {p : Program} {l : Launch} {e : Env} {s : State} {m : MethodId} {args : Array Value} {below : List Frame} {meth : Method} {c : Code} {G : GG}
theorem d_O_mark_0 : decode cc_O_mark 0 = .ok (.aload_n 0, 1) := by decide +kernel
theorem d_O_mark_1 : decode cc_O_mark 1 = .ok (.iload_n 1, 1) := by decide +kernel
theorem d_O_mark_2 : decode cc_O_mark 2 = .ok (.invokevirtual 155, 3) := by decide +kernel
theorem d_O_mark_5 : decode cc_O_mark 5 = .ok (.aload_n 0, 1) := by decide +kernel
theorem d_O_mark_6 : decode cc_O_mark 6 = .ok (.dup, 1) := by decide +kernel
theorem d_O_mark_7 : decode cc_O_mark 7 = .ok (.getfield 72, 3) := by decide +kernel
theorem d_O_mark_10 : decode cc_O_mark 10 = .ok (.lconst 1, 1) := by decide +kernel
theorem d_O_mark_11 : decode cc_O_mark 11 = .ok (.iload_n 1, 1) := by decide +kernel
theorem d_O_mark_12 : decode cc_O_mark 12 = .ok (.lshl, 1) := by decide +kernel
theorem d_O_mark_13 : decode cc_O_mark 13 = .ok (.lxor, 1) := by decide +kernel
theorem d_O_mark_14 : decode cc_O_mark 14 = .ok (.putfield 72, 3) := by decide +kernel
theorem d_O_mark_17 : decode cc_O_mark 17 = .ok (.aload_n 0, 1) := by decide +kernel
theorem d_O_mark_18 : decode cc_O_mark 18 = .ok (.getfield 72, 3) := by decide +kernel
theorem d_O_mark_21 : decode cc_O_mark 21 = .ok (.iload_n 1, 1) := by decide +kernel
theorem d_O_mark_22 : decode cc_O_mark 22 = .ok (.invokestatic 194, 3) := by decide +kernel
theorem d_O_mark_25 : decode cc_O_mark 25 = .ok (.ireturn, 1) := by decide +kernel
def P_O_mark (a1 : Int32) (z0 : St) (Q : Int32 → St → Prop) (X : Nat → St → Prop) : Prop := P_O_requirePerson a1 z0 (fun (z1 : St) => ∀ z2 : St, z2 = wL z1 0 9 ((z1.2 0 9) ^^^ ((1 : Int64) <<< (a1.toInt64 &&& 63))) → P_O_isIn (z2.2 0 9) a1 z2 (fun (x4 : Int32) (z3 : St) => zb x4 ∧ Q x4 z3)) X
set_option maxHeartbeats 4000000 in
set_option maxRecDepth 100000 in
theorem c_O_mark {l : Launch} {G : GG} (a1 : Int32) (z0 : St) (Q : Int32 → St → Prop) (X : Nat → St → Prop) (hP : P_O_mark a1 z0 Q X) : CtiX l y_O_mark cc_O_mark 2 (some .boolean) rm_O_mark G [.ref (ha G 0), .int a1] z0 Q X := by
  refine CtiX.op (own := R_O) (by decide) rfl (Nat.le_of_ble_eq_true rfl) (fun p e s m args below meth c ls E hl hW => ?_)
  obtain ⟨hx, hb, hml, hown, hr, hlk, hex, hE⟩ := id E
  have hl : lv_has ls 2 [(0, .ref (ha G 0)), (1, .int a1)] := hl
  refine lv_aload_n hx hb d_O_mark_0 rfl (lv_at hl 0 rfl) ?_
  refine lv_iload_n hx hb d_O_mark_1 rfl (lv_at hl 1 rfl) ?_
  refine yx_v (yVX (As := [.int a1]) (rest := []) E (c_O_requirePerson _ _ _ _ hP) (cw_O_155 hE) (yrv_0 hE hW) (by decide) hW hl.1 rfl rfl rfl d_O_mark_2) hW (fun z1 H locs hP hW => ?_) hlk hex (fun _ _ h1 h2 => Or.inr ⟨h1, h2⟩)
  refine lv_aload_n hx hb d_O_mark_5 rfl (lv_at hl 0 rfl) ?_
  refine lv_dup hx hb d_O_mark_6 rfl ?_
  refine ygf_0_9 hx hb hown hE hW (lk_O_72 hE) d_O_mark_7 ?_
  refine lv_lconst (v := 1) hx hb d_O_mark_10 (by decide) ?_
  refine lv_iload_n hx hb d_O_mark_11 rfl (lv_at hl 1 rfl) ?_
  refine lv_lshl hx hb d_O_mark_12 rfl ?_
  refine lv_lxor hx hb d_O_mark_13 ?_
  refine ypf_0_9 hx hb hown hE hW (lk_O_72 hE) d_O_mark_14 (fun z2 H locs e_z2 hW => ?_)
  have hP := hP z2 e_z2
  refine lv_aload_n hx hb d_O_mark_17 rfl (lv_at hl 0 rfl) ?_
  refine ygf_0_9 hx hb hown hE hW (lk_O_72 hE) d_O_mark_18 ?_
  refine lv_iload_n hx hb d_O_mark_21 rfl (lv_at hl 1 rfl) ?_
  refine yc_i (yS (As := [.long (z2.2 0 9), .int a1]) (rest := []) E (c_O_isIn _ _ _ _ hP) (cw_O_194 hE) (by decide) hW hl.1 rfl rfl rfl d_O_mark_22) hW (fun x4 z3 H locs hP hW => ?_)
  exact yr_zX hx hb hr hlk hW hP.1 hP.2 d_O_mark_25
theorem d_R_membersOf_0 : decode cc_R_membersOf 0 = .ok (.iconst 0, 1) := by decide +kernel
theorem d_R_membersOf_1 : decode cc_R_membersOf 1 = .ok (.istore 4, 2) := by decide +kernel
theorem d_R_membersOf_3 : decode cc_R_membersOf 3 = .ok (.iconst 0, 1) := by decide +kernel
theorem d_R_membersOf_4 : decode cc_R_membersOf 4 = .ok (.istore 5, 2) := by decide +kernel
theorem d_R_membersOf_6 : decode cc_R_membersOf 6 = .ok (.iload 5, 2) := by decide +kernel
theorem d_R_membersOf_8 : decode cc_R_membersOf 8 = .ok (.aload_n 0, 1) := by decide +kernel
theorem d_R_membersOf_9 : decode cc_R_membersOf 9 = .ok (.getfield 7, 3) := by decide +kernel
theorem d_R_membersOf_12 : decode cc_R_membersOf 12 = .ok (.getfield 56, 3) := by decide +kernel
theorem d_R_membersOf_15 : decode cc_R_membersOf 15 = .ok (.if_icmp .ge 43, 3) := by decide +kernel
theorem d_R_membersOf_18 : decode cc_R_membersOf 18 = .ok (.aload_n 0, 1) := by decide +kernel
theorem d_R_membersOf_19 : decode cc_R_membersOf 19 = .ok (.getfield 7, 3) := by decide +kernel
theorem d_R_membersOf_22 : decode cc_R_membersOf 22 = .ok (.getfield 59, 3) := by decide +kernel
theorem d_R_membersOf_25 : decode cc_R_membersOf 25 = .ok (.iload 5, 2) := by decide +kernel
theorem d_R_membersOf_27 : decode cc_R_membersOf 27 = .ok (.iaload, 1) := by decide +kernel
theorem d_R_membersOf_28 : decode cc_R_membersOf 28 = .ok (.aload_n 0, 1) := by decide +kernel
theorem d_R_membersOf_29 : decode cc_R_membersOf 29 = .ok (.getfield 7, 3) := by decide +kernel
theorem d_R_membersOf_32 : decode cc_R_membersOf 32 = .ok (.getfield 62, 3) := by decide +kernel
theorem d_R_membersOf_35 : decode cc_R_membersOf 35 = .ok (.iload_n 1, 1) := by decide +kernel
theorem d_R_membersOf_36 : decode cc_R_membersOf 36 = .ok (.iaload, 1) := by decide +kernel
theorem d_R_membersOf_37 : decode cc_R_membersOf 37 = .ok (.if_icmp .ne 15, 3) := by decide +kernel
theorem d_R_membersOf_40 : decode cc_R_membersOf 40 = .ok (.lload_n 2, 1) := by decide +kernel
theorem d_R_membersOf_41 : decode cc_R_membersOf 41 = .ok (.iload 5, 2) := by decide +kernel
theorem d_R_membersOf_43 : decode cc_R_membersOf 43 = .ok (.invokestatic 75, 3) := by decide +kernel
theorem d_R_membersOf_46 : decode cc_R_membersOf 46 = .ok (.ifCond .eq 6, 3) := by decide +kernel
theorem d_R_membersOf_49 : decode cc_R_membersOf 49 = .ok (.iinc 4 1, 3) := by decide +kernel
theorem d_R_membersOf_52 : decode cc_R_membersOf 52 = .ok (.iinc 5 1, 3) := by decide +kernel
theorem d_R_membersOf_55 : decode cc_R_membersOf 55 = .ok (.goto (-49), 3) := by decide +kernel
theorem d_R_membersOf_58 : decode cc_R_membersOf 58 = .ok (.iload 4, 2) := by decide +kernel
theorem d_R_membersOf_60 : decode cc_R_membersOf 60 = .ok (.ireturn, 1) := by decide +kernel
def L_R_membersOf_6 (Q : Int32 → St → Prop) : Nat → Int32 → Int64 → Int32 → Int32 → St → Prop
  | 0, _, _, _, _, _ => False
  | n + 1, v1, v2, v4, v5, z0 => (((z0.1 1 4) ≤ v5) → Q v4 z0) ∧ ((¬ (z0.1 1 4) ≤ v5) → vp_in v5 40 ∧ vp_in v1 16 ∧ ((¬ (z0.1 3 v5.toNatClampNeg) = (z0.1 4 v1.toNatClampNeg)) → ∀ x1 : Int32, x1 = v5 + 1 → L_R_membersOf_6 Q n v1 v2 v4 x1 z0) ∧ (((z0.1 3 v5.toNatClampNeg) = (z0.1 4 v1.toNatClampNeg)) → P_O_isIn v2 v5 z0 (fun (x3 : Int32) (z2 : St) => ((x3 = 0) → ∀ x4 : Int32, x4 = v5 + 1 → L_R_membersOf_6 Q n v1 v2 v4 x4 z2) ∧ ((¬ x3 = 0) → ∀ x5 : Int32, x5 = v4 + 1 → ∀ x6 : Int32, x6 = v5 + 1 → L_R_membersOf_6 Q n v1 v2 x5 x6 z2))))
def P_R_membersOf (a1 : Int32) (a2 : Int64) (z0 : St) (Q : Int32 → St → Prop) : Prop := ∃ k6 : Nat, L_R_membersOf_6 Q k6 a1 a2 (0 : Int32) (0 : Int32) z0
set_option maxHeartbeats 4000000 in
set_option maxRecDepth 100000 in
theorem wL_R_membersOf_6 {Q : Int32 → St → Prop} (E : En p l s m meth c args cc_R_membersOf 6 R_R (some .int) G) :
    ∀ (n : Nat) (v1 : Int32) (v2 : Int64) (v4 : Int32) (v5 : Int32) (z0 : St) (ls : Array Slot) (H : Heap) (locs : List Loc), L_R_membersOf_6 Q n v1 v2 v4 v5 z0 → lv_has ls 6 [(0, .ref (ha G 19)), (1, .int v1), (2, .long v2), (4, .int v4), (5, .int v5)] → Wd G z0 s.heap H locs → W p l e rm_R_membersOf s m args below meth c H locs 0 0 (MQ below (QiR Q G) args s 0 0 (fr G)) (F0 m 6 ls []) := by
  obtain ⟨hx, hb, hml, hown, hr, hlk, hex, hE⟩ := id E
  intro n
  induction n with
  | zero => exact fun _ _ _ _ _ _ _ _ hP _ _ => hP.elim
  | succ n ih =>
    intro v1 v2 v4 v5 z0 ls H locs hP hl hW
    refine lv_iload hx hb d_R_membersOf_6 (lv_at hl 4 rfl) ?_
    refine lv_aload_n hx hb d_R_membersOf_8 rfl (lv_at hl 0 rfl) ?_
    refine ygf_19_0 hx hb hown hE hW (lk_R_7 hE) d_R_membersOf_9 ?_
    refine ygn_1_4 hx hb hown hE hW (lk_R_56 hE) d_R_membersOf_12 ?_
    refine lv_icmp_ge (tgt := 58) hx hb d_R_membersOf_15 rfl (fun hc => ?_) (fun hc => ?_)
    · have hP := hP.1 hc
      refine lv_iload hx hb d_R_membersOf_58 (lv_at hl 3 rfl) ?_
      exact yr_i hx hb hr hlk hW hP d_R_membersOf_60
    · have hP := hP.2 hc
      refine lv_aload_n hx hb d_R_membersOf_18 rfl (lv_at hl 0 rfl) ?_
      refine ygf_19_0 hx hb hown hE hW (lk_R_7 hE) d_R_membersOf_19 ?_
      refine ygn_1_1 hx hb hown hE hW (lk_R_59 hE) d_R_membersOf_22 ?_
      refine lv_iload hx hb d_R_membersOf_25 (lv_at hl 4 rfl) ?_
      refine ya_3 hx hb hE hW hP.1 d_R_membersOf_27 ?_
      have hP := hP.2
      refine lv_aload_n hx hb d_R_membersOf_28 rfl (lv_at hl 0 rfl) ?_
      refine ygf_19_0 hx hb hown hE hW (lk_R_7 hE) d_R_membersOf_29 ?_
      refine ygn_1_2 hx hb hown hE hW (lk_R_62 hE) d_R_membersOf_32 ?_
      refine lv_iload_n hx hb d_R_membersOf_35 rfl (lv_at hl 1 rfl) ?_
      refine ya_4 hx hb hE hW hP.1 d_R_membersOf_36 ?_
      have hP := hP.2
      refine lv_icmp_ne (tgt := 52) hx hb d_R_membersOf_37 rfl (fun hc => ?_) (fun hc => ?_)
      · have hP := hP.1 hc
        obtain ⟨x1, e_x1⟩ : ∃ z : Int32, z = v5 + 1 := ⟨_, rfl⟩
        have hP := hP x1 e_x1
        refine lv_iinc (k := 4) (lv' := [(5, .int x1), (0, .ref (ha G 19)), (1, .int v1), (2, .long v2), (4, .int v4)]) hx hb d_R_membersOf_52 hl rfl (ii_p1 e_x1) (by decide) rfl (fun ls hl => ?_)
        refine lv_goto (tgt := 6) hx hb d_R_membersOf_55 rfl ?_
        exact ih _ _ _ _ _ _ _ _ hP (lv_sub hl [1, 2, 3, 4, 0] rfl) hW
      · have hP := hP.2 hc
        refine lv_lload_n hx hb d_R_membersOf_40 rfl (lv_at hl 2 rfl) ?_
        refine lv_iload hx hb d_R_membersOf_41 (lv_at hl 4 rfl) ?_
        refine yc_i (ySN (As := [.long v2, .int v5]) (rest := []) E (c_O_isIn _ _ _ _ hP) (cw_R_75 hE) (by decide) hW hl.1 rfl rfl rfl d_R_membersOf_43) hW (fun x3 z2 H locs hP hW => ?_)
        refine lv_if_eq (tgt := 52) hx hb d_R_membersOf_46 rfl (fun hc => ?_) (fun hc => ?_)
        · have hP := hP.1 hc
          obtain ⟨x4, e_x4⟩ : ∃ z : Int32, z = v5 + 1 := ⟨_, rfl⟩
          have hP := hP x4 e_x4
          refine lv_iinc (k := 4) (lv' := [(5, .int x4), (0, .ref (ha G 19)), (1, .int v1), (2, .long v2), (4, .int v4)]) hx hb d_R_membersOf_52 hl rfl (ii_p1 e_x4) (by decide) rfl (fun ls hl => ?_)
          refine lv_goto (tgt := 6) hx hb d_R_membersOf_55 rfl ?_
          exact ih _ _ _ _ _ _ _ _ hP (lv_sub hl [1, 2, 3, 4, 0] rfl) hW
        · have hP := hP.2 hc
          obtain ⟨x5, e_x5⟩ : ∃ z : Int32, z = v4 + 1 := ⟨_, rfl⟩
          have hP := hP x5 e_x5
          refine lv_iinc (k := 3) (lv' := [(4, .int x5), (0, .ref (ha G 19)), (1, .int v1), (2, .long v2), (5, .int v5)]) hx hb d_R_membersOf_49 hl rfl (ii_p1 e_x5) (by decide) rfl (fun ls hl => ?_)
          obtain ⟨x6, e_x6⟩ : ∃ z : Int32, z = v5 + 1 := ⟨_, rfl⟩
          have hP := hP x6 e_x6
          refine lv_iinc (k := 4) (lv' := [(5, .int x6), (4, .int x5), (0, .ref (ha G 19)), (1, .int v1), (2, .long v2)]) hx hb d_R_membersOf_52 hl rfl (ii_p1 e_x6) (by decide) rfl (fun ls hl => ?_)
          refine lv_goto (tgt := 6) hx hb d_R_membersOf_55 rfl ?_
          exact ih _ _ _ _ _ _ _ _ hP (lv_sub hl [2, 3, 4, 1, 0] rfl) hW
set_option maxHeartbeats 4000000 in
set_option maxRecDepth 100000 in
theorem c_R_membersOf {l : Launch} {G : GG} (a1 : Int32) (a2 : Int64) (z0 : St) (Q : Int32 → St → Prop) (hP : P_R_membersOf a1 a2 z0 Q) : Cti l y_R_membersOf cc_R_membersOf 6 (some .int) rm_R_membersOf G [.ref (ha G 19), .int a1, .long a2] z0 Q := by
  refine Cti.op (own := R_R) (by decide) rfl (Nat.le_of_ble_eq_true rfl) (fun p e s m args below meth c ls E hl hW => ?_)
  obtain ⟨hx, hb, hml, hown, hr, hlk, hex, hE⟩ := id E
  have hl : lv_has ls 6 [(0, .ref (ha G 19)), (1, .int a1), (2, .long a2)] := hl
  refine lv_iconst (v := 0) hx hb d_R_membersOf_0 (by decide) ?_
  refine lv_istore (lv' := [(4, .int (0 : Int32)), (0, .ref (ha G 19)), (1, .int a1), (2, .long a2)]) hx hb d_R_membersOf_1 hl (by decide) rfl (fun ls hl => ?_)
  refine lv_iconst (v := 0) hx hb d_R_membersOf_3 (by decide) ?_
  refine lv_istore (lv' := [(5, .int (0 : Int32)), (4, .int (0 : Int32)), (0, .ref (ha G 19)), (1, .int a1), (2, .long a2)]) hx hb d_R_membersOf_4 hl (by decide) rfl (fun ls hl => ?_)
  obtain ⟨n2, hP⟩ := hP
  refine wL_R_membersOf_6 E n2 _ _ _ _ _ _ _ _ hP (lv_sub hl [2, 3, 4, 1, 0] rfl) hW
theorem d_R_indexIn_0 : decode cc_R_indexIn 0 = .ok (.lconst 0, 1) := by decide +kernel
theorem d_R_indexIn_1 : decode cc_R_indexIn 1 = .ok (.lstore 5, 2) := by decide +kernel
theorem d_R_indexIn_3 : decode cc_R_indexIn 3 = .ok (.aload_n 0, 1) := by decide +kernel
theorem d_R_indexIn_4 : decode cc_R_indexIn 4 = .ok (.getfield 7, 3) := by decide +kernel
theorem d_R_indexIn_7 : decode cc_R_indexIn 7 = .ok (.getfield 39, 3) := by decide +kernel
theorem d_R_indexIn_10 : decode cc_R_indexIn 10 = .ok (.iload_n 1, 1) := by decide +kernel
theorem d_R_indexIn_11 : decode cc_R_indexIn 11 = .ok (.iaload, 1) := by decide +kernel
theorem d_R_indexIn_12 : decode cc_R_indexIn 12 = .ok (.istore 7, 2) := by decide +kernel
theorem d_R_indexIn_14 : decode cc_R_indexIn 14 = .ok (.iload_n 2, 1) := by decide +kernel
theorem d_R_indexIn_15 : decode cc_R_indexIn 15 = .ok (.istore 8, 2) := by decide +kernel
theorem d_R_indexIn_17 : decode cc_R_indexIn 17 = .ok (.iconst 0, 1) := by decide +kernel
theorem d_R_indexIn_18 : decode cc_R_indexIn 18 = .ok (.istore 9, 2) := by decide +kernel
theorem d_R_indexIn_20 : decode cc_R_indexIn 20 = .ok (.iload 9, 2) := by decide +kernel
theorem d_R_indexIn_22 : decode cc_R_indexIn 22 = .ok (.aload_n 0, 1) := by decide +kernel
theorem d_R_indexIn_23 : decode cc_R_indexIn 23 = .ok (.getfield 7, 3) := by decide +kernel
theorem d_R_indexIn_26 : decode cc_R_indexIn 26 = .ok (.getfield 56, 3) := by decide +kernel
theorem d_R_indexIn_29 : decode cc_R_indexIn 29 = .ok (.if_icmp .ge 72, 3) := by decide +kernel
theorem d_R_indexIn_32 : decode cc_R_indexIn 32 = .ok (.iload 8, 2) := by decide +kernel
theorem d_R_indexIn_34 : decode cc_R_indexIn 34 = .ok (.ifCond .le 67, 3) := by decide +kernel
theorem d_R_indexIn_37 : decode cc_R_indexIn 37 = .ok (.aload_n 0, 1) := by decide +kernel
theorem d_R_indexIn_38 : decode cc_R_indexIn 38 = .ok (.getfield 7, 3) := by decide +kernel
theorem d_R_indexIn_41 : decode cc_R_indexIn 41 = .ok (.getfield 59, 3) := by decide +kernel
theorem d_R_indexIn_44 : decode cc_R_indexIn 44 = .ok (.iload 9, 2) := by decide +kernel
theorem d_R_indexIn_46 : decode cc_R_indexIn 46 = .ok (.iaload, 1) := by decide +kernel
theorem d_R_indexIn_47 : decode cc_R_indexIn 47 = .ok (.aload_n 0, 1) := by decide +kernel
theorem d_R_indexIn_48 : decode cc_R_indexIn 48 = .ok (.getfield 7, 3) := by decide +kernel
theorem d_R_indexIn_51 : decode cc_R_indexIn 51 = .ok (.getfield 62, 3) := by decide +kernel
theorem d_R_indexIn_54 : decode cc_R_indexIn 54 = .ok (.iload_n 1, 1) := by decide +kernel
theorem d_R_indexIn_55 : decode cc_R_indexIn 55 = .ok (.iaload, 1) := by decide +kernel
theorem d_R_indexIn_56 : decode cc_R_indexIn 56 = .ok (.if_icmp .ne 39, 3) := by decide +kernel
theorem d_R_indexIn_59 : decode cc_R_indexIn 59 = .ok (.iinc 7 (-1), 3) := by decide +kernel
theorem d_R_indexIn_62 : decode cc_R_indexIn 62 = .ok (.lload_n 3, 1) := by decide +kernel
theorem d_R_indexIn_63 : decode cc_R_indexIn 63 = .ok (.iload 9, 2) := by decide +kernel
theorem d_R_indexIn_65 : decode cc_R_indexIn 65 = .ok (.invokestatic 75, 3) := by decide +kernel
theorem d_R_indexIn_68 : decode cc_R_indexIn 68 = .ok (.ifCond .eq 9, 3) := by decide +kernel
theorem d_R_indexIn_71 : decode cc_R_indexIn 71 = .ok (.iinc 8 (-1), 3) := by decide +kernel
theorem d_R_indexIn_74 : decode cc_R_indexIn 74 = .ok (.goto 21, 3) := by decide +kernel
theorem d_R_indexIn_77 : decode cc_R_indexIn 77 = .ok (.lload 5, 2) := by decide +kernel
theorem d_R_indexIn_79 : decode cc_R_indexIn 79 = .ok (.aload_n 0, 1) := by decide +kernel
theorem d_R_indexIn_80 : decode cc_R_indexIn 80 = .ok (.getfield 13, 3) := by decide +kernel
theorem d_R_indexIn_83 : decode cc_R_indexIn 83 = .ok (.iload 7, 2) := by decide +kernel
theorem d_R_indexIn_85 : decode cc_R_indexIn 85 = .ok (.iload 8, 2) := by decide +kernel
theorem d_R_indexIn_87 : decode cc_R_indexIn 87 = .ok (.iconst 1, 1) := by decide +kernel
theorem d_R_indexIn_88 : decode cc_R_indexIn 88 = .ok (.isub, 1) := by decide +kernel
theorem d_R_indexIn_89 : decode cc_R_indexIn 89 = .ok (.invokevirtual 42, 3) := by decide +kernel
theorem d_R_indexIn_92 : decode cc_R_indexIn 92 = .ok (.ladd, 1) := by decide +kernel
theorem d_R_indexIn_93 : decode cc_R_indexIn 93 = .ok (.lstore 5, 2) := by decide +kernel
theorem d_R_indexIn_95 : decode cc_R_indexIn 95 = .ok (.iinc 9 1, 3) := by decide +kernel
theorem d_R_indexIn_98 : decode cc_R_indexIn 98 = .ok (.goto (-78), 3) := by decide +kernel
theorem d_R_indexIn_101 : decode cc_R_indexIn 101 = .ok (.lload 5, 2) := by decide +kernel
theorem d_R_indexIn_103 : decode cc_R_indexIn 103 = .ok (.lreturn, 1) := by decide +kernel
def L_R_indexIn_20 (Q : Int64 → St → Prop) : Nat → Int32 → Int64 → Int64 → Int32 → Int32 → Int32 → St → Prop
  | 0, _, _, _, _, _, _, _ => False
  | n + 1, v1, v3, v5, v7, v8, v9, z0 => (((z0.1 1 4) ≤ v9) → Q v5 z0) ∧ ((¬ (z0.1 1 4) ≤ v9) → ((v8 ≤ 0) → Q v5 z0) ∧ ((¬ v8 ≤ 0) → vp_in v9 40 ∧ vp_in v1 16 ∧ ((¬ (z0.1 3 v9.toNatClampNeg) = (z0.1 4 v1.toNatClampNeg)) → ∀ x2 : Int32, x2 = v9 + 1 → L_R_indexIn_20 Q n v1 v3 v5 v7 v8 x2 z0) ∧ (((z0.1 3 v9.toNatClampNeg) = (z0.1 4 v1.toNatClampNeg)) → ∀ x3 : Int32, x3 = v7 - 1 → P_O_isIn v3 v9 z0 (fun (x5 : Int32) (z4 : St) => ((x5 = 0) → P_T_choose x3 (v8 - (1 : Int32)) z4 (fun (x7 : Int64) (z6 : St) => ∀ x8 : Int64, x8 = v5 + x7 → ∀ x9 : Int32, x9 = v9 + 1 → L_R_indexIn_20 Q n v1 v3 x8 x3 v8 x9 z6)) ∧ ((¬ x5 = 0) → ∀ x10 : Int32, x10 = v8 - 1 → ∀ x11 : Int32, x11 = v9 + 1 → L_R_indexIn_20 Q n v1 v3 v5 x3 x10 x11 z4)))))
def P_R_indexIn (a1 : Int32) (a2 : Int32) (a3 : Int64) (z0 : St) (Q : Int64 → St → Prop) : Prop := vp_in a1 16 ∧ ∀ x1 : Int32, x1 = (z0.1 5 a1.toNatClampNeg) → ∃ k20 : Nat, L_R_indexIn_20 Q k20 a1 a3 (0 : Int64) x1 a2 (0 : Int32) z0
set_option maxHeartbeats 4000000 in
set_option maxRecDepth 100000 in
theorem wL_R_indexIn_20 {Q : Int64 → St → Prop} (E : En p l s m meth c args cc_R_indexIn 10 R_R (some .long) G) :
    ∀ (n : Nat) (v1 : Int32) (v3 : Int64) (v5 : Int64) (v7 : Int32) (v8 : Int32) (v9 : Int32) (z0 : St) (ls : Array Slot) (H : Heap) (locs : List Loc), L_R_indexIn_20 Q n v1 v3 v5 v7 v8 v9 z0 → lv_has ls 10 [(0, .ref (ha G 19)), (1, .int v1), (3, .long v3), (5, .long v5), (7, .int v7), (8, .int v8), (9, .int v9)] → Wd G z0 s.heap H locs → W p l e rm_R_indexIn s m args below meth c H locs 0 0 (MQ below (QlR Q G) args s 0 0 (fr G)) (F0 m 20 ls []) := by
  obtain ⟨hx, hb, hml, hown, hr, hlk, hex, hE⟩ := id E
  intro n
  induction n with
  | zero => exact fun _ _ _ _ _ _ _ _ _ _ hP _ _ => hP.elim
  | succ n ih =>
    intro v1 v3 v5 v7 v8 v9 z0 ls H locs hP hl hW
    refine lv_iload hx hb d_R_indexIn_20 (lv_at hl 6 rfl) ?_
    refine lv_aload_n hx hb d_R_indexIn_22 rfl (lv_at hl 0 rfl) ?_
    refine ygf_19_0 hx hb hown hE hW (lk_R_7 hE) d_R_indexIn_23 ?_
    refine ygn_1_4 hx hb hown hE hW (lk_R_56 hE) d_R_indexIn_26 ?_
    refine lv_icmp_ge (tgt := 101) hx hb d_R_indexIn_29 rfl (fun hc => ?_) (fun hc => ?_)
    · have hP := hP.1 hc
      refine lv_lload hx hb d_R_indexIn_101 (lv_at hl 3 rfl) ?_
      exact yr_l hx hb hr hlk hW hP d_R_indexIn_103
    · have hP := hP.2 hc
      refine lv_iload hx hb d_R_indexIn_32 (lv_at hl 5 rfl) ?_
      refine lv_if_le (tgt := 101) hx hb d_R_indexIn_34 rfl (fun hc => ?_) (fun hc => ?_)
      · have hP := hP.1 hc
        refine lv_lload hx hb d_R_indexIn_101 (lv_at hl 3 rfl) ?_
        exact yr_l hx hb hr hlk hW hP d_R_indexIn_103
      · have hP := hP.2 hc
        refine lv_aload_n hx hb d_R_indexIn_37 rfl (lv_at hl 0 rfl) ?_
        refine ygf_19_0 hx hb hown hE hW (lk_R_7 hE) d_R_indexIn_38 ?_
        refine ygn_1_1 hx hb hown hE hW (lk_R_59 hE) d_R_indexIn_41 ?_
        refine lv_iload hx hb d_R_indexIn_44 (lv_at hl 6 rfl) ?_
        refine ya_3 hx hb hE hW hP.1 d_R_indexIn_46 ?_
        have hP := hP.2
        refine lv_aload_n hx hb d_R_indexIn_47 rfl (lv_at hl 0 rfl) ?_
        refine ygf_19_0 hx hb hown hE hW (lk_R_7 hE) d_R_indexIn_48 ?_
        refine ygn_1_2 hx hb hown hE hW (lk_R_62 hE) d_R_indexIn_51 ?_
        refine lv_iload_n hx hb d_R_indexIn_54 rfl (lv_at hl 1 rfl) ?_
        refine ya_4 hx hb hE hW hP.1 d_R_indexIn_55 ?_
        have hP := hP.2
        refine lv_icmp_ne (tgt := 95) hx hb d_R_indexIn_56 rfl (fun hc => ?_) (fun hc => ?_)
        · have hP := hP.1 hc
          obtain ⟨x2, e_x2⟩ : ∃ z : Int32, z = v9 + 1 := ⟨_, rfl⟩
          have hP := hP x2 e_x2
          refine lv_iinc (k := 6) (lv' := [(9, .int x2), (0, .ref (ha G 19)), (1, .int v1), (3, .long v3), (5, .long v5), (7, .int v7), (8, .int v8)]) hx hb d_R_indexIn_95 hl rfl (ii_p1 e_x2) (by decide) rfl (fun ls hl => ?_)
          refine lv_goto (tgt := 20) hx hb d_R_indexIn_98 rfl ?_
          exact ih _ _ _ _ _ _ _ _ _ _ hP (lv_sub hl [1, 2, 3, 4, 5, 6, 0] rfl) hW
        · have hP := hP.2 hc
          obtain ⟨x3, e_x3⟩ : ∃ z : Int32, z = v7 - 1 := ⟨_, rfl⟩
          have hP := hP x3 e_x3
          refine lv_iinc (k := 4) (lv' := [(7, .int x3), (0, .ref (ha G 19)), (1, .int v1), (3, .long v3), (5, .long v5), (8, .int v8), (9, .int v9)]) hx hb d_R_indexIn_59 hl rfl (ii_m1 e_x3) (by decide) rfl (fun ls hl => ?_)
          refine lv_lload_n hx hb d_R_indexIn_62 rfl (lv_at hl 3 rfl) ?_
          refine lv_iload hx hb d_R_indexIn_63 (lv_at hl 6 rfl) ?_
          refine yc_i (ySN (As := [.long v3, .int v9]) (rest := []) E (c_O_isIn _ _ _ _ hP) (cw_R_75 hE) (by decide) hW hl.1 rfl rfl rfl d_R_indexIn_65) hW (fun x5 z4 H locs hP hW => ?_)
          refine lv_if_eq (tgt := 77) hx hb d_R_indexIn_68 rfl (fun hc => ?_) (fun hc => ?_)
          · have hP := hP.1 hc
            refine lv_lload hx hb d_R_indexIn_77 (lv_at hl 4 rfl) ?_
            refine lv_aload_n hx hb d_R_indexIn_79 rfl (lv_at hl 1 rfl) ?_
            refine ygf_19_1 hx hb hown hE hW (lk_R_13 hE) d_R_indexIn_80 ?_
            refine lv_iload hx hb d_R_indexIn_83 (lv_at hl 0 rfl) ?_
            refine lv_iload hx hb d_R_indexIn_85 (lv_at hl 5 rfl) ?_
            refine lv_iconst (v := 1) hx hb d_R_indexIn_87 (by decide) ?_
            refine lv_isub hx hb d_R_indexIn_88 ?_
            refine yc_l (yV (As := [.int x3, .int (v8 - (1 : Int32))]) (rest := [.long v5]) E (c_T_choose _ _ _ _ hP) (cw_R_42 hE) (yrv_9 hE hW) (by decide) hW hl.1 rfl rfl rfl d_R_indexIn_89) hW (fun x7 z6 H locs hP hW => ?_)
            refine lv_ladd hx hb d_R_indexIn_92 ?_
            refine lv_topl (fun x8 e_x8 => ?_)
            have hP := hP x8 e_x8
            refine lv_lstore (lv' := [(5, .long x8), (7, .int x3), (0, .ref (ha G 19)), (1, .int v1), (3, .long v3), (8, .int v8), (9, .int v9)]) hx hb d_R_indexIn_93 hl (by decide) rfl (fun ls hl => ?_)
            obtain ⟨x9, e_x9⟩ : ∃ z : Int32, z = v9 + 1 := ⟨_, rfl⟩
            have hP := hP x9 e_x9
            refine lv_iinc (k := 6) (lv' := [(9, .int x9), (5, .long x8), (7, .int x3), (0, .ref (ha G 19)), (1, .int v1), (3, .long v3), (8, .int v8)]) hx hb d_R_indexIn_95 hl rfl (ii_p1 e_x9) (by decide) rfl (fun ls hl => ?_)
            refine lv_goto (tgt := 20) hx hb d_R_indexIn_98 rfl ?_
            exact ih _ _ _ _ _ _ _ _ _ _ hP (lv_sub hl [3, 4, 5, 1, 2, 6, 0] rfl) hW
          · have hP := hP.2 hc
            obtain ⟨x10, e_x10⟩ : ∃ z : Int32, z = v8 - 1 := ⟨_, rfl⟩
            have hP := hP x10 e_x10
            refine lv_iinc (k := 5) (lv' := [(8, .int x10), (7, .int x3), (0, .ref (ha G 19)), (1, .int v1), (3, .long v3), (5, .long v5), (9, .int v9)]) hx hb d_R_indexIn_71 hl rfl (ii_m1 e_x10) (by decide) rfl (fun ls hl => ?_)
            refine lv_goto (tgt := 95) hx hb d_R_indexIn_74 rfl ?_
            obtain ⟨x11, e_x11⟩ : ∃ z : Int32, z = v9 + 1 := ⟨_, rfl⟩
            have hP := hP x11 e_x11
            refine lv_iinc (k := 6) (lv' := [(9, .int x11), (8, .int x10), (7, .int x3), (0, .ref (ha G 19)), (1, .int v1), (3, .long v3), (5, .long v5)]) hx hb d_R_indexIn_95 hl rfl (ii_p1 e_x11) (by decide) rfl (fun ls hl => ?_)
            refine lv_goto (tgt := 20) hx hb d_R_indexIn_98 rfl ?_
            exact ih _ _ _ _ _ _ _ _ _ _ hP (lv_sub hl [3, 4, 5, 6, 2, 1, 0] rfl) hW
set_option maxHeartbeats 4000000 in
set_option maxRecDepth 100000 in
theorem c_R_indexIn {l : Launch} {G : GG} (a1 : Int32) (a2 : Int32) (a3 : Int64) (z0 : St) (Q : Int64 → St → Prop) (hP : P_R_indexIn a1 a2 a3 z0 Q) : Ctl l y_R_indexIn cc_R_indexIn 10 (some .long) rm_R_indexIn G [.ref (ha G 19), .int a1, .int a2, .long a3] z0 Q := by
  refine Ctl.op (own := R_R) (by decide) rfl (Nat.le_of_ble_eq_true rfl) (fun p e s m args below meth c ls E hl hW => ?_)
  obtain ⟨hx, hb, hml, hown, hr, hlk, hex, hE⟩ := id E
  have hl : lv_has ls 10 [(0, .ref (ha G 19)), (1, .int a1), (2, .int a2), (3, .long a3)] := hl
  refine lv_lconst (v := 0) hx hb d_R_indexIn_0 (by decide) ?_
  refine lv_lstore (lv' := [(5, .long (0 : Int64)), (0, .ref (ha G 19)), (1, .int a1), (2, .int a2), (3, .long a3)]) hx hb d_R_indexIn_1 hl (by decide) rfl (fun ls hl => ?_)
  refine lv_aload_n hx hb d_R_indexIn_3 rfl (lv_at hl 1 rfl) ?_
  refine ygf_19_0 hx hb hown hE hW (lk_R_7 hE) d_R_indexIn_4 ?_
  refine ygn_1_3 hx hb hown hE hW (lk_R_39 hE) d_R_indexIn_7 ?_
  refine lv_iload_n hx hb d_R_indexIn_10 rfl (lv_at hl 2 rfl) ?_
  refine ya_5 hx hb hE hW hP.1 d_R_indexIn_11 ?_
  have hP := hP.2
  refine lv_topi (fun x1 e_x1 => ?_)
  have hP := hP x1 e_x1
  refine lv_istore (lv' := [(7, .int x1), (5, .long (0 : Int64)), (0, .ref (ha G 19)), (1, .int a1), (2, .int a2), (3, .long a3)]) hx hb d_R_indexIn_12 hl (by decide) rfl (fun ls hl => ?_)
  refine lv_iload_n hx hb d_R_indexIn_14 rfl (lv_at hl 4 rfl) ?_
  refine lv_istore (lv' := [(8, .int a2), (7, .int x1), (5, .long (0 : Int64)), (0, .ref (ha G 19)), (1, .int a1), (2, .int a2), (3, .long a3)]) hx hb d_R_indexIn_15 hl (by decide) rfl (fun ls hl => ?_)
  refine lv_iconst (v := 0) hx hb d_R_indexIn_17 (by decide) ?_
  refine lv_istore (lv' := [(9, .int (0 : Int32)), (8, .int a2), (7, .int x1), (5, .long (0 : Int64)), (0, .ref (ha G 19)), (1, .int a1), (2, .int a2), (3, .long a3)]) hx hb d_R_indexIn_18 hl (by decide) rfl (fun ls hl => ?_)
  obtain ⟨n2, hP⟩ := hP
  refine wL_R_indexIn_20 E n2 _ _ _ _ _ _ _ _ _ _ hP (lv_sub hl [4, 5, 7, 3, 2, 1, 0] rfl) hW
theorem d_R_rankOf_0 : decode cc_R_rankOf 0 = .ok (.lconst 0, 1) := by decide +kernel
theorem d_R_rankOf_1 : decode cc_R_rankOf 1 = .ok (.lstore_n 3, 1) := by decide +kernel
theorem d_R_rankOf_2 : decode cc_R_rankOf 2 = .ok (.iconst 0, 1) := by decide +kernel
theorem d_R_rankOf_3 : decode cc_R_rankOf 3 = .ok (.istore 5, 2) := by decide +kernel
theorem d_R_rankOf_5 : decode cc_R_rankOf 5 = .ok (.iconst 0, 1) := by decide +kernel
theorem d_R_rankOf_6 : decode cc_R_rankOf 6 = .ok (.istore 6, 2) := by decide +kernel
theorem d_R_rankOf_8 : decode cc_R_rankOf 8 = .ok (.iload 6, 2) := by decide +kernel
theorem d_R_rankOf_10 : decode cc_R_rankOf 10 = .ok (.aload_n 0, 1) := by decide +kernel
theorem d_R_rankOf_11 : decode cc_R_rankOf 11 = .ok (.getfield 7, 3) := by decide +kernel
theorem d_R_rankOf_14 : decode cc_R_rankOf 14 = .ok (.getfield 17, 3) := by decide +kernel
theorem d_R_rankOf_17 : decode cc_R_rankOf 17 = .ok (.if_icmp .ge 137, 3) := by decide +kernel
theorem d_R_rankOf_20 : decode cc_R_rankOf 20 = .ok (.aload_n 0, 1) := by decide +kernel
theorem d_R_rankOf_21 : decode cc_R_rankOf 21 = .ok (.iload 6, 2) := by decide +kernel
theorem d_R_rankOf_23 : decode cc_R_rankOf 23 = .ok (.lload_n 1, 1) := by decide +kernel
theorem d_R_rankOf_24 : decode cc_R_rankOf 24 = .ok (.invokevirtual 65, 3) := by decide +kernel
theorem d_R_rankOf_27 : decode cc_R_rankOf 27 = .ok (.istore 7, 2) := by decide +kernel
theorem d_R_rankOf_29 : decode cc_R_rankOf 29 = .ok (.iload 7, 2) := by decide +kernel
theorem d_R_rankOf_31 : decode cc_R_rankOf 31 = .ok (.aload_n 0, 1) := by decide +kernel
theorem d_R_rankOf_32 : decode cc_R_rankOf 32 = .ok (.getfield 13, 3) := by decide +kernel
theorem d_R_rankOf_35 : decode cc_R_rankOf 35 = .ok (.getfield 33, 3) := by decide +kernel
theorem d_R_rankOf_38 : decode cc_R_rankOf 38 = .ok (.iload 5, 2) := by decide +kernel
theorem d_R_rankOf_40 : decode cc_R_rankOf 40 = .ok (.iaload, 1) := by decide +kernel
theorem d_R_rankOf_41 : decode cc_R_rankOf 41 = .ok (.if_icmp .le 7, 3) := by decide +kernel
theorem d_R_rankOf_44 : decode cc_R_rankOf 44 = .ok (.ldc2_w 69, 3) := by decide +kernel
theorem d_R_rankOf_47 : decode cc_R_rankOf 47 = .ok (.lreturn, 1) := by decide +kernel
theorem d_R_rankOf_48 : decode cc_R_rankOf 48 = .ok (.aload_n 0, 1) := by decide +kernel
theorem d_R_rankOf_49 : decode cc_R_rankOf 49 = .ok (.getfield 13, 3) := by decide +kernel
theorem d_R_rankOf_52 : decode cc_R_rankOf 52 = .ok (.getfield 23, 3) := by decide +kernel
theorem d_R_rankOf_55 : decode cc_R_rankOf 55 = .ok (.iload 5, 2) := by decide +kernel
theorem d_R_rankOf_57 : decode cc_R_rankOf 57 = .ok (.iaload, 1) := by decide +kernel
theorem d_R_rankOf_58 : decode cc_R_rankOf 58 = .ok (.istore 8, 2) := by decide +kernel
theorem d_R_rankOf_60 : decode cc_R_rankOf 60 = .ok (.iconst 0, 1) := by decide +kernel
theorem d_R_rankOf_61 : decode cc_R_rankOf 61 = .ok (.istore 9, 2) := by decide +kernel
theorem d_R_rankOf_63 : decode cc_R_rankOf 63 = .ok (.iload 9, 2) := by decide +kernel
theorem d_R_rankOf_65 : decode cc_R_rankOf 65 = .ok (.iload 7, 2) := by decide +kernel
theorem d_R_rankOf_67 : decode cc_R_rankOf 67 = .ok (.if_icmp .ge 54, 3) := by decide +kernel
theorem d_R_rankOf_70 : decode cc_R_rankOf 70 = .ok (.lload_n 3, 1) := by decide +kernel
theorem d_R_rankOf_71 : decode cc_R_rankOf 71 = .ok (.aload_n 0, 1) := by decide +kernel
theorem d_R_rankOf_72 : decode cc_R_rankOf 72 = .ok (.getfield 13, 3) := by decide +kernel
theorem d_R_rankOf_75 : decode cc_R_rankOf 75 = .ok (.aload_n 0, 1) := by decide +kernel
theorem d_R_rankOf_76 : decode cc_R_rankOf 76 = .ok (.getfield 7, 3) := by decide +kernel
theorem d_R_rankOf_79 : decode cc_R_rankOf 79 = .ok (.getfield 39, 3) := by decide +kernel
theorem d_R_rankOf_82 : decode cc_R_rankOf 82 = .ok (.iload 6, 2) := by decide +kernel
theorem d_R_rankOf_84 : decode cc_R_rankOf 84 = .ok (.iaload, 1) := by decide +kernel
theorem d_R_rankOf_85 : decode cc_R_rankOf 85 = .ok (.iload 9, 2) := by decide +kernel
theorem d_R_rankOf_87 : decode cc_R_rankOf 87 = .ok (.invokevirtual 42, 3) := by decide +kernel
theorem d_R_rankOf_90 : decode cc_R_rankOf 90 = .ok (.aload_n 0, 1) := by decide +kernel
theorem d_R_rankOf_91 : decode cc_R_rankOf 91 = .ok (.getfield 13, 3) := by decide +kernel
theorem d_R_rankOf_94 : decode cc_R_rankOf 94 = .ok (.getfield 29, 3) := by decide +kernel
theorem d_R_rankOf_97 : decode cc_R_rankOf 97 = .ok (.iload 8, 2) := by decide +kernel
theorem d_R_rankOf_99 : decode cc_R_rankOf 99 = .ok (.laload, 1) := by decide +kernel
theorem d_R_rankOf_100 : decode cc_R_rankOf 100 = .ok (.lmul, 1) := by decide +kernel
theorem d_R_rankOf_101 : decode cc_R_rankOf 101 = .ok (.ladd, 1) := by decide +kernel
theorem d_R_rankOf_102 : decode cc_R_rankOf 102 = .ok (.lstore_n 3, 1) := by decide +kernel
theorem d_R_rankOf_103 : decode cc_R_rankOf 103 = .ok (.aload_n 0, 1) := by decide +kernel
theorem d_R_rankOf_104 : decode cc_R_rankOf 104 = .ok (.getfield 13, 3) := by decide +kernel
theorem d_R_rankOf_107 : decode cc_R_rankOf 107 = .ok (.getfield 36, 3) := by decide +kernel
theorem d_R_rankOf_110 : decode cc_R_rankOf 110 = .ok (.iload 8, 2) := by decide +kernel
theorem d_R_rankOf_112 : decode cc_R_rankOf 112 = .ok (.iaload, 1) := by decide +kernel
theorem d_R_rankOf_113 : decode cc_R_rankOf 113 = .ok (.istore 8, 2) := by decide +kernel
theorem d_R_rankOf_115 : decode cc_R_rankOf 115 = .ok (.iinc 9 1, 3) := by decide +kernel
theorem d_R_rankOf_118 : decode cc_R_rankOf 118 = .ok (.goto (-55), 3) := by decide +kernel
theorem d_R_rankOf_121 : decode cc_R_rankOf 121 = .ok (.lload_n 3, 1) := by decide +kernel
theorem d_R_rankOf_122 : decode cc_R_rankOf 122 = .ok (.aload_n 0, 1) := by decide +kernel
theorem d_R_rankOf_123 : decode cc_R_rankOf 123 = .ok (.iload 6, 2) := by decide +kernel
theorem d_R_rankOf_125 : decode cc_R_rankOf 125 = .ok (.iload 7, 2) := by decide +kernel
theorem d_R_rankOf_127 : decode cc_R_rankOf 127 = .ok (.lload_n 1, 1) := by decide +kernel
theorem d_R_rankOf_128 : decode cc_R_rankOf 128 = .ok (.invokevirtual 71, 3) := by decide +kernel
theorem d_R_rankOf_131 : decode cc_R_rankOf 131 = .ok (.aload_n 0, 1) := by decide +kernel
theorem d_R_rankOf_132 : decode cc_R_rankOf 132 = .ok (.getfield 13, 3) := by decide +kernel
theorem d_R_rankOf_135 : decode cc_R_rankOf 135 = .ok (.getfield 29, 3) := by decide +kernel
theorem d_R_rankOf_138 : decode cc_R_rankOf 138 = .ok (.iload 8, 2) := by decide +kernel
theorem d_R_rankOf_140 : decode cc_R_rankOf 140 = .ok (.laload, 1) := by decide +kernel
theorem d_R_rankOf_141 : decode cc_R_rankOf 141 = .ok (.lmul, 1) := by decide +kernel
theorem d_R_rankOf_142 : decode cc_R_rankOf 142 = .ok (.ladd, 1) := by decide +kernel
theorem d_R_rankOf_143 : decode cc_R_rankOf 143 = .ok (.lstore_n 3, 1) := by decide +kernel
theorem d_R_rankOf_144 : decode cc_R_rankOf 144 = .ok (.iload 8, 2) := by decide +kernel
theorem d_R_rankOf_146 : decode cc_R_rankOf 146 = .ok (.istore 5, 2) := by decide +kernel
theorem d_R_rankOf_148 : decode cc_R_rankOf 148 = .ok (.iinc 6 1, 3) := by decide +kernel
theorem d_R_rankOf_151 : decode cc_R_rankOf 151 = .ok (.goto (-143), 3) := by decide +kernel
theorem d_R_rankOf_154 : decode cc_R_rankOf 154 = .ok (.aload_n 0, 1) := by decide +kernel
theorem d_R_rankOf_155 : decode cc_R_rankOf 155 = .ok (.getfield 13, 3) := by decide +kernel
theorem d_R_rankOf_158 : decode cc_R_rankOf 158 = .ok (.getfield 29, 3) := by decide +kernel
theorem d_R_rankOf_161 : decode cc_R_rankOf 161 = .ok (.iload 5, 2) := by decide +kernel
theorem d_R_rankOf_163 : decode cc_R_rankOf 163 = .ok (.laload, 1) := by decide +kernel
theorem d_R_rankOf_164 : decode cc_R_rankOf 164 = .ok (.lconst 0, 1) := by decide +kernel
theorem d_R_rankOf_165 : decode cc_R_rankOf 165 = .ok (.lcmp, 1) := by decide +kernel
theorem d_R_rankOf_166 : decode cc_R_rankOf 166 = .ok (.ifCond .le 7, 3) := by decide +kernel
theorem d_R_rankOf_169 : decode cc_R_rankOf 169 = .ok (.lload_n 3, 1) := by decide +kernel
theorem d_R_rankOf_170 : decode cc_R_rankOf 170 = .ok (.goto 6, 3) := by decide +kernel
theorem d_R_rankOf_173 : decode cc_R_rankOf 173 = .ok (.ldc2_w 69, 3) := by decide +kernel
theorem d_R_rankOf_176 : decode cc_R_rankOf 176 = .ok (.lreturn, 1) := by decide +kernel
def L_R_rankOf_63 (K121 : Int64 → Int64 → Int32 → Int32 → Int32 → St → Prop) (Q : Int64 → St → Prop) : Nat → Int64 → Int64 → Int32 → Int32 → Int32 → Int32 → St → Prop
  | 0, _, _, _, _, _, _, _ => False
  | n + 1, v1, v3, v6, v7, v8, v9, z0 => ((v7 ≤ v9) → K121 v1 v3 v6 v7 v8 z0) ∧ ((¬ v7 ≤ v9) → vp_in v6 16 ∧ P_T_choose (z0.1 5 v6.toNatClampNeg) v9 z0 (fun (x5 : Int64) (z4 : St) => vp_in v8 1001 ∧ ∀ x6 : Int64, x6 = v3 + (x5 * (z4.2 14 v8.toNatClampNeg)) → vp_in v8 1001 ∧ ∀ x7 : Int32, x7 = (z4.1 13 v8.toNatClampNeg) → ∀ x8 : Int32, x8 = v9 + 1 → L_R_rankOf_63 K121 Q n v1 x6 v6 v7 x7 x8 z4))
def L_R_rankOf_8 (K154 : Int64 → Int32 → St → Prop) (Q : Int64 → St → Prop) : Nat → Int64 → Int64 → Int32 → Int32 → St → Prop
  | 0, _, _, _, _, _ => False
  | n + 1, v1, v3, v5, v6, z0 => (((z0.1 1 5) ≤ v6) → K154 v3 v5 z0) ∧ ((¬ (z0.1 1 5) ≤ v6) → P_R_membersOf v6 v1 z0 (fun (x2 : Int32) (z1 : St) => vp_in v5 1001 ∧ ((x2 ≤ (z1.1 11 v5.toNatClampNeg)) → vp_in v5 1001 ∧ ∀ x3 : Int32, x3 = (z1.1 12 v5.toNatClampNeg) → ∃ k63 : Nat, L_R_rankOf_63 (fun (x9 : Int64) (x10 : Int64) (x11 : Int32) (x12 : Int32) (x13 : Int32) (z14 : St) => P_R_indexIn x11 x12 x9 z14 (fun (x16 : Int64) (z15 : St) => vp_in x13 1001 ∧ ∀ x17 : Int64, x17 = x10 + (x16 * (z15.2 14 x13.toNatClampNeg)) → ∀ x18 : Int32, x18 = x11 + 1 → L_R_rankOf_8 K154 Q n x9 x17 x13 x18 z15)) Q k63 v1 v3 v6 x2 x3 (0 : Int32) z1) ∧ ((¬ x2 ≤ (z1.1 11 v5.toNatClampNeg)) → Q (-1 : Int64) z1)))
def P_R_rankOf (a1 : Int64) (z0 : St) (Q : Int64 → St → Prop) : Prop := ∃ k8 : Nat, L_R_rankOf_8 (fun (x19 : Int64) (x20 : Int32) (z21 : St) => vp_in x20 1001 ∧ (((z21.2 14 x20.toNatClampNeg) ≤ (0 : Int64)) → Q (-1 : Int64) z21) ∧ ((¬ (z21.2 14 x20.toNatClampNeg) ≤ (0 : Int64)) → Q x19 z21)) Q k8 a1 (0 : Int64) (0 : Int32) (0 : Int32) z0
set_option maxHeartbeats 4000000 in
set_option maxRecDepth 100000 in
theorem wL_R_rankOf_63 {K121 : Int64 → Int64 → Int32 → Int32 → Int32 → St → Prop} {Q : Int64 → St → Prop} (E : En p l s m meth c args cc_R_rankOf 10 R_R (some .long) G)
    (hK121 : ∀ (v1 : Int64) (v3 : Int64) (v6 : Int32) (v7 : Int32) (v8 : Int32) (z0 : St) (ls : Array Slot) (H : Heap) (locs : List Loc), K121 v1 v3 v6 v7 v8 z0 → lv_has ls 10 [(0, .ref (ha G 19)), (1, .long v1), (3, .long v3), (6, .int v6), (7, .int v7), (8, .int v8)] → Wd G z0 s.heap H locs → W p l e rm_R_rankOf s m args below meth c H locs 0 0 (MQ below (QlR Q G) args s 0 0 (fr G)) (F0 m 121 ls [])) :
    ∀ (n : Nat) (v1 : Int64) (v3 : Int64) (v6 : Int32) (v7 : Int32) (v8 : Int32) (v9 : Int32) (z0 : St) (ls : Array Slot) (H : Heap) (locs : List Loc), L_R_rankOf_63 K121 Q n v1 v3 v6 v7 v8 v9 z0 → lv_has ls 10 [(0, .ref (ha G 19)), (1, .long v1), (3, .long v3), (6, .int v6), (7, .int v7), (8, .int v8), (9, .int v9)] → Wd G z0 s.heap H locs → W p l e rm_R_rankOf s m args below meth c H locs 0 0 (MQ below (QlR Q G) args s 0 0 (fr G)) (F0 m 63 ls []) := by
  obtain ⟨hx, hb, hml, hown, hr, hlk, hex, hE⟩ := id E
  intro n
  induction n with
  | zero => exact fun _ _ _ _ _ _ _ _ _ _ hP _ _ => hP.elim
  | succ n ih =>
    intro v1 v3 v6 v7 v8 v9 z0 ls H locs hP hl hW
    refine lv_iload hx hb d_R_rankOf_63 (lv_at hl 6 rfl) ?_
    refine lv_iload hx hb d_R_rankOf_65 (lv_at hl 4 rfl) ?_
    refine lv_icmp_ge (tgt := 121) hx hb d_R_rankOf_67 rfl (fun hc => ?_) (fun hc => ?_)
    · have hP := hP.1 hc
      exact hK121 _ _ _ _ _ _ _ _ _ hP (lv_sub hl [0, 1, 2, 3, 4, 5] rfl) hW
    · have hP := hP.2 hc
      refine lv_lload_n hx hb d_R_rankOf_70 rfl (lv_at hl 2 rfl) ?_
      refine lv_aload_n hx hb d_R_rankOf_71 rfl (lv_at hl 0 rfl) ?_
      refine ygf_19_1 hx hb hown hE hW (lk_R_13 hE) d_R_rankOf_72 ?_
      refine lv_aload_n hx hb d_R_rankOf_75 rfl (lv_at hl 0 rfl) ?_
      refine ygf_19_0 hx hb hown hE hW (lk_R_7 hE) d_R_rankOf_76 ?_
      refine ygn_1_3 hx hb hown hE hW (lk_R_39 hE) d_R_rankOf_79 ?_
      refine lv_iload hx hb d_R_rankOf_82 (lv_at hl 3 rfl) ?_
      refine ya_5 hx hb hE hW hP.1 d_R_rankOf_84 ?_
      have hP := hP.2
      refine lv_iload hx hb d_R_rankOf_85 (lv_at hl 6 rfl) ?_
      refine yc_l (yV (As := [.int (z0.1 5 v6.toNatClampNeg), .int v9]) (rest := [.long v3]) E (c_T_choose _ _ _ _ hP) (cw_R_42 hE) (yrv_9 hE hW) (by decide) hW hl.1 rfl rfl rfl d_R_rankOf_87) hW (fun x5 z4 H locs hP hW => ?_)
      refine lv_aload_n hx hb d_R_rankOf_90 rfl (lv_at hl 0 rfl) ?_
      refine ygf_19_1 hx hb hown hE hW (lk_R_13 hE) d_R_rankOf_91 ?_
      refine ygn_9_5 hx hb hown hE hW (lk_R_29 hE) d_R_rankOf_94 ?_
      refine lv_iload hx hb d_R_rankOf_97 (lv_at hl 5 rfl) ?_
      refine ya_14 hx hb hE hW hP.1 d_R_rankOf_99 ?_
      have hP := hP.2
      refine lv_lmul hx hb d_R_rankOf_100 ?_
      refine lv_ladd hx hb d_R_rankOf_101 ?_
      refine lv_topl (fun x6 e_x6 => ?_)
      have hP := hP x6 e_x6
      refine lv_lstore_n (lv' := [(3, .long x6), (0, .ref (ha G 19)), (1, .long v1), (6, .int v6), (7, .int v7), (8, .int v8), (9, .int v9)]) hx hb d_R_rankOf_102 rfl hl (by decide) rfl (fun ls hl => ?_)
      refine lv_aload_n hx hb d_R_rankOf_103 rfl (lv_at hl 1 rfl) ?_
      refine ygf_19_1 hx hb hown hE hW (lk_R_13 hE) d_R_rankOf_104 ?_
      refine ygn_9_4 hx hb hown hE hW (lk_R_36 hE) d_R_rankOf_107 ?_
      refine lv_iload hx hb d_R_rankOf_110 (lv_at hl 5 rfl) ?_
      refine ya_13 hx hb hE hW hP.1 d_R_rankOf_112 ?_
      have hP := hP.2
      refine lv_topi (fun x7 e_x7 => ?_)
      have hP := hP x7 e_x7
      refine lv_istore (lv' := [(8, .int x7), (3, .long x6), (0, .ref (ha G 19)), (1, .long v1), (6, .int v6), (7, .int v7), (9, .int v9)]) hx hb d_R_rankOf_113 hl (by decide) rfl (fun ls hl => ?_)
      obtain ⟨x8, e_x8⟩ : ∃ z : Int32, z = v9 + 1 := ⟨_, rfl⟩
      have hP := hP x8 e_x8
      refine lv_iinc (k := 6) (lv' := [(9, .int x8), (8, .int x7), (3, .long x6), (0, .ref (ha G 19)), (1, .long v1), (6, .int v6), (7, .int v7)]) hx hb d_R_rankOf_115 hl rfl (ii_p1 e_x8) (by decide) rfl (fun ls hl => ?_)
      refine lv_goto (tgt := 63) hx hb d_R_rankOf_118 rfl ?_
      exact ih _ _ _ _ _ _ _ _ _ _ hP (lv_sub hl [3, 4, 2, 5, 6, 1, 0] rfl) hW
set_option maxHeartbeats 4000000 in
set_option maxRecDepth 100000 in
theorem wL_R_rankOf_8 {K154 : Int64 → Int32 → St → Prop} {Q : Int64 → St → Prop} (E : En p l s m meth c args cc_R_rankOf 10 R_R (some .long) G)
    (hK154 : ∀ (v3 : Int64) (v5 : Int32) (z0 : St) (ls : Array Slot) (H : Heap) (locs : List Loc), K154 v3 v5 z0 → lv_has ls 10 [(0, .ref (ha G 19)), (3, .long v3), (5, .int v5)] → Wd G z0 s.heap H locs → W p l e rm_R_rankOf s m args below meth c H locs 0 0 (MQ below (QlR Q G) args s 0 0 (fr G)) (F0 m 154 ls [])) :
    ∀ (n : Nat) (v1 : Int64) (v3 : Int64) (v5 : Int32) (v6 : Int32) (z0 : St) (ls : Array Slot) (H : Heap) (locs : List Loc), L_R_rankOf_8 K154 Q n v1 v3 v5 v6 z0 → lv_has ls 10 [(0, .ref (ha G 19)), (1, .long v1), (3, .long v3), (5, .int v5), (6, .int v6)] → Wd G z0 s.heap H locs → W p l e rm_R_rankOf s m args below meth c H locs 0 0 (MQ below (QlR Q G) args s 0 0 (fr G)) (F0 m 8 ls []) := by
  obtain ⟨hx, hb, hml, hown, hr, hlk, hex, hE⟩ := id E
  intro n
  induction n with
  | zero => exact fun _ _ _ _ _ _ _ _ hP _ _ => hP.elim
  | succ n ih =>
    intro v1 v3 v5 v6 z0 ls H locs hP hl hW
    refine lv_iload hx hb d_R_rankOf_8 (lv_at hl 4 rfl) ?_
    refine lv_aload_n hx hb d_R_rankOf_10 rfl (lv_at hl 0 rfl) ?_
    refine ygf_19_0 hx hb hown hE hW (lk_R_7 hE) d_R_rankOf_11 ?_
    refine ygn_1_5 hx hb hown hE hW (lk_R_17 hE) d_R_rankOf_14 ?_
    refine lv_icmp_ge (tgt := 154) hx hb d_R_rankOf_17 rfl (fun hc => ?_) (fun hc => ?_)
    · have hP := hP.1 hc
      exact hK154 _ _ _ _ _ _ hP (lv_sub hl [0, 2, 3] rfl) hW
    · have hP := hP.2 hc
      refine lv_aload_n hx hb d_R_rankOf_20 rfl (lv_at hl 0 rfl) ?_
      refine lv_iload hx hb d_R_rankOf_21 (lv_at hl 4 rfl) ?_
      refine lv_lload_n hx hb d_R_rankOf_23 rfl (lv_at hl 1 rfl) ?_
      refine yc_i (yV (As := [.int v6, .long v1]) (rest := []) E (c_R_membersOf _ _ _ _ hP) (cw_R_65 hE) (yrv_19 hE hW) (by decide) hW hl.1 rfl rfl rfl d_R_rankOf_24) hW (fun x2 z1 H locs hP hW => ?_)
      refine lv_istore (lv' := [(7, .int x2), (0, .ref (ha G 19)), (1, .long v1), (3, .long v3), (5, .int v5), (6, .int v6)]) hx hb d_R_rankOf_27 hl (by decide) rfl (fun ls hl => ?_)
      refine lv_iload hx hb d_R_rankOf_29 (lv_at hl 0 rfl) ?_
      refine lv_aload_n hx hb d_R_rankOf_31 rfl (lv_at hl 1 rfl) ?_
      refine ygf_19_1 hx hb hown hE hW (lk_R_13 hE) d_R_rankOf_32 ?_
      refine ygn_9_2 hx hb hown hE hW (lk_R_33 hE) d_R_rankOf_35 ?_
      refine lv_iload hx hb d_R_rankOf_38 (lv_at hl 4 rfl) ?_
      refine ya_11 hx hb hE hW hP.1 d_R_rankOf_40 ?_
      have hP := hP.2
      refine lv_icmp_le (tgt := 48) hx hb d_R_rankOf_41 rfl (fun hc => ?_) (fun hc => ?_)
      · have hP := hP.1 hc
        refine lv_aload_n hx hb d_R_rankOf_48 rfl (lv_at hl 1 rfl) ?_
        refine ygf_19_1 hx hb hown hE hW (lk_R_13 hE) d_R_rankOf_49 ?_
        refine ygn_9_3 hx hb hown hE hW (lk_R_23 hE) d_R_rankOf_52 ?_
        refine lv_iload hx hb d_R_rankOf_55 (lv_at hl 4 rfl) ?_
        refine ya_12 hx hb hE hW hP.1 d_R_rankOf_57 ?_
        have hP := hP.2
        refine lv_topi (fun x3 e_x3 => ?_)
        have hP := hP x3 e_x3
        refine lv_istore (lv' := [(8, .int x3), (7, .int x2), (0, .ref (ha G 19)), (1, .long v1), (3, .long v3), (5, .int v5), (6, .int v6)]) hx hb d_R_rankOf_58 hl (by decide) rfl (fun ls hl => ?_)
        refine lv_iconst (v := 0) hx hb d_R_rankOf_60 (by decide) ?_
        refine lv_istore (lv' := [(9, .int (0 : Int32)), (8, .int x3), (7, .int x2), (0, .ref (ha G 19)), (1, .long v1), (3, .long v3), (5, .int v5), (6, .int v6)]) hx hb d_R_rankOf_61 hl (by decide) rfl (fun ls hl => ?_)
        obtain ⟨n2, hP⟩ := hP
        refine wL_R_rankOf_63 E ?_ n2 _ _ _ _ _ _ _ _ _ _ hP (lv_sub hl [3, 4, 5, 7, 2, 1, 0] rfl) hW
        · intro x9 x10 x11 x12 x13 z14 ls H locs hP hl hW
          refine lv_lload_n hx hb d_R_rankOf_121 rfl (lv_at hl 2 rfl) ?_
          refine lv_aload_n hx hb d_R_rankOf_122 rfl (lv_at hl 0 rfl) ?_
          refine lv_iload hx hb d_R_rankOf_123 (lv_at hl 3 rfl) ?_
          refine lv_iload hx hb d_R_rankOf_125 (lv_at hl 4 rfl) ?_
          refine lv_lload_n hx hb d_R_rankOf_127 rfl (lv_at hl 1 rfl) ?_
          refine yc_l (yV (As := [.int x11, .int x12, .long x9]) (rest := [.long x10]) E (c_R_indexIn _ _ _ _ _ hP) (cw_R_71 hE) (yrv_19 hE hW) (by decide) hW hl.1 rfl rfl rfl d_R_rankOf_128) hW (fun x16 z15 H locs hP hW => ?_)
          refine lv_aload_n hx hb d_R_rankOf_131 rfl (lv_at hl 0 rfl) ?_
          refine ygf_19_1 hx hb hown hE hW (lk_R_13 hE) d_R_rankOf_132 ?_
          refine ygn_9_5 hx hb hown hE hW (lk_R_29 hE) d_R_rankOf_135 ?_
          refine lv_iload hx hb d_R_rankOf_138 (lv_at hl 5 rfl) ?_
          refine ya_14 hx hb hE hW hP.1 d_R_rankOf_140 ?_
          have hP := hP.2
          refine lv_lmul hx hb d_R_rankOf_141 ?_
          refine lv_ladd hx hb d_R_rankOf_142 ?_
          refine lv_topl (fun x17 e_x17 => ?_)
          have hP := hP x17 e_x17
          refine lv_lstore_n (lv' := [(3, .long x17), (0, .ref (ha G 19)), (1, .long x9), (6, .int x11), (7, .int x12), (8, .int x13)]) hx hb d_R_rankOf_143 rfl hl (by decide) rfl (fun ls hl => ?_)
          refine lv_iload hx hb d_R_rankOf_144 (lv_at hl 5 rfl) ?_
          refine lv_istore (lv' := [(5, .int x13), (3, .long x17), (0, .ref (ha G 19)), (1, .long x9), (6, .int x11), (7, .int x12), (8, .int x13)]) hx hb d_R_rankOf_146 hl (by decide) rfl (fun ls hl => ?_)
          obtain ⟨x18, e_x18⟩ : ∃ z : Int32, z = x11 + 1 := ⟨_, rfl⟩
          have hP := hP x18 e_x18
          refine lv_iinc (k := 4) (lv' := [(6, .int x18), (5, .int x13), (3, .long x17), (0, .ref (ha G 19)), (1, .long x9), (7, .int x12), (8, .int x13)]) hx hb d_R_rankOf_148 hl rfl (ii_p1 e_x18) (by decide) rfl (fun ls hl => ?_)
          refine lv_goto (tgt := 8) hx hb d_R_rankOf_151 rfl ?_
          exact ih _ _ _ _ _ _ _ _ hP (lv_sub hl [3, 4, 2, 1, 0] rfl) hW
      · have hP := hP.2 hc
        refine lv_ldc2 (v := -1) hx hb hown (lk_R_69 hE) d_R_rankOf_44 ?_
        exact yr_l hx hb hr hlk hW hP d_R_rankOf_47
set_option maxHeartbeats 4000000 in
set_option maxRecDepth 100000 in
theorem c_R_rankOf {l : Launch} {G : GG} (a1 : Int64) (z0 : St) (Q : Int64 → St → Prop) (hP : P_R_rankOf a1 z0 Q) : Ctl l y_R_rankOf cc_R_rankOf 10 (some .long) rm_R_rankOf G [.ref (ha G 19), .long a1] z0 Q := by
  refine Ctl.op (own := R_R) (by decide) rfl (Nat.le_of_ble_eq_true rfl) (fun p e s m args below meth c ls E hl hW => ?_)
  obtain ⟨hx, hb, hml, hown, hr, hlk, hex, hE⟩ := id E
  have hl : lv_has ls 10 [(0, .ref (ha G 19)), (1, .long a1)] := hl
  refine lv_lconst (v := 0) hx hb d_R_rankOf_0 (by decide) ?_
  refine lv_lstore_n (lv' := [(3, .long (0 : Int64)), (0, .ref (ha G 19)), (1, .long a1)]) hx hb d_R_rankOf_1 rfl hl (by decide) rfl (fun ls hl => ?_)
  refine lv_iconst (v := 0) hx hb d_R_rankOf_2 (by decide) ?_
  refine lv_istore (lv' := [(5, .int (0 : Int32)), (3, .long (0 : Int64)), (0, .ref (ha G 19)), (1, .long a1)]) hx hb d_R_rankOf_3 hl (by decide) rfl (fun ls hl => ?_)
  refine lv_iconst (v := 0) hx hb d_R_rankOf_5 (by decide) ?_
  refine lv_istore (lv' := [(6, .int (0 : Int32)), (5, .int (0 : Int32)), (3, .long (0 : Int64)), (0, .ref (ha G 19)), (1, .long a1)]) hx hb d_R_rankOf_6 hl (by decide) rfl (fun ls hl => ?_)
  obtain ⟨n2, hP⟩ := hP
  refine wL_R_rankOf_8 E ?_ n2 _ _ _ _ _ _ _ _ hP (lv_sub hl [3, 4, 2, 1, 0] rfl) hW
  · intro x19 x20 z21 ls H locs hP hl hW
    refine lv_aload_n hx hb d_R_rankOf_154 rfl (lv_at hl 0 rfl) ?_
    refine ygf_19_1 hx hb hown hE hW (lk_R_13 hE) d_R_rankOf_155 ?_
    refine ygn_9_5 hx hb hown hE hW (lk_R_29 hE) d_R_rankOf_158 ?_
    refine lv_iload hx hb d_R_rankOf_161 (lv_at hl 2 rfl) ?_
    refine ya_14 hx hb hE hW hP.1 d_R_rankOf_163 ?_
    have hP := hP.2
    refine lv_lconst (v := 0) hx hb d_R_rankOf_164 (by decide) ?_
    refine W.lcmp hx hb d_R_rankOf_165 ?_
    refine lv_if_le (tgt := 173) hx hb d_R_rankOf_166 rfl (fun hc => ?_) (fun hc => ?_)
    · have hP := hP.1 (lgc_let hc)
      refine lv_ldc2 (v := -1) hx hb hown (lk_R_69 hE) d_R_rankOf_173 ?_
      exact yr_l hx hb hr hlk hW hP d_R_rankOf_176
    · have hP := hP.2 (lgc_lef hc)
      refine lv_lload_n hx hb d_R_rankOf_169 rfl (lv_at hl 1 rfl) ?_
      refine lv_goto (tgt := 176) hx hb d_R_rankOf_170 rfl ?_
      exact yr_l hx hb hr hlk hW hP d_R_rankOf_176
theorem d_O_rank_0 : decode cc_O_rank 0 = .ok (.aload_n 0, 1) := by decide +kernel
theorem d_O_rank_1 : decode cc_O_rank 1 = .ok (.invokevirtual 137, 3) := by decide +kernel
theorem d_O_rank_4 : decode cc_O_rank 4 = .ok (.aload_n 0, 1) := by decide +kernel
theorem d_O_rank_5 : decode cc_O_rank 5 = .ok (.getfield 37, 3) := by decide +kernel
theorem d_O_rank_8 : decode cc_O_rank 8 = .ok (.aload_n 0, 1) := by decide +kernel
theorem d_O_rank_9 : decode cc_O_rank 9 = .ok (.getfield 72, 3) := by decide +kernel
theorem d_O_rank_12 : decode cc_O_rank 12 = .ok (.invokevirtual 198, 3) := by decide +kernel
theorem d_O_rank_15 : decode cc_O_rank 15 = .ok (.lstore_n 1, 1) := by decide +kernel
theorem d_O_rank_16 : decode cc_O_rank 16 = .ok (.lload_n 1, 1) := by decide +kernel
theorem d_O_rank_17 : decode cc_O_rank 17 = .ok (.lconst 0, 1) := by decide +kernel
theorem d_O_rank_18 : decode cc_O_rank 18 = .ok (.lcmp, 1) := by decide +kernel
theorem d_O_rank_19 : decode cc_O_rank 19 = .ok (.ifCond .ge 13, 3) := by decide +kernel
theorem d_O_rank_22 : decode cc_O_rank 22 = .ok (.new 202, 3) := by decide +kernel
theorem d_O_rank_25 : decode cc_O_rank 25 = .ok (.dup, 1) := by decide +kernel
theorem d_O_rank_26 : decode cc_O_rank 26 = .ok (.ldc 204, 2) := by decide +kernel
theorem d_O_rank_28 : decode cc_O_rank 28 = .ok (.invokespecial 206, 3) := by decide +kernel
theorem d_O_rank_31 : decode cc_O_rank 31 = .ok (.athrow, 1) := by decide +kernel
theorem d_O_rank_32 : decode cc_O_rank 32 = .ok (.lload_n 1, 1) := by decide +kernel
theorem d_O_rank_33 : decode cc_O_rank 33 = .ok (.lreturn, 1) := by decide +kernel
def P_O_rank (z0 : St) (Q : Int64 → St → Prop) (X : Nat → St → Prop) : Prop := P_O_requireCountable z0 (fun (z1 : St) => P_R_rankOf (z1.2 0 9) z1 (fun (x3 : Int64) (z2 : St) => (((0 : Int64) ≤ x3) → Q x3 z2) ∧ ((¬ (0 : Int64) ≤ x3) → X 2 z2))) X
set_option maxHeartbeats 4000000 in
set_option maxRecDepth 100000 in
theorem c_O_rank {l : Launch} {G : GG} (z0 : St) (Q : Int64 → St → Prop) (X : Nat → St → Prop) (hP : P_O_rank z0 Q X) : CtlX l y_O_rank cc_O_rank 3 (some .long) rm_O_rank G [.ref (ha G 0)] z0 Q X := by
  refine CtlX.op (own := R_O) (by decide) rfl (Nat.le_of_ble_eq_true rfl) (fun p e s m args below meth c ls E hl hW => ?_)
  obtain ⟨hx, hb, hml, hown, hr, hlk, hex, hE⟩ := id E
  have hl : lv_has ls 3 [(0, .ref (ha G 0))] := hl
  refine lv_aload_n hx hb d_O_rank_0 rfl (lv_at hl 0 rfl) ?_
  refine yx_v (yVX (As := []) (rest := []) E (c_O_requireCountable _ _ _ hP) (cw_O_137 hE) (yrv_0 hE hW) (by decide) hW hl.1 rfl rfl rfl d_O_rank_1) hW (fun z1 H locs hP hW => ?_) hlk hex (fun _ _ h1 h2 => Or.inr ⟨h1, h2⟩)
  refine lv_aload_n hx hb d_O_rank_4 rfl (lv_at hl 0 rfl) ?_
  refine ygf_0_3 hx hb hown hE hW (lk_O_37 hE) d_O_rank_5 ?_
  refine lv_aload_n hx hb d_O_rank_8 rfl (lv_at hl 0 rfl) ?_
  refine ygf_0_9 hx hb hown hE hW (lk_O_72 hE) d_O_rank_9 ?_
  refine yc_l (yV (As := [.long (z1.2 0 9)]) (rest := []) E (c_R_rankOf _ _ _ hP) (cw_O_198 hE) (yrv_19 hE hW) (by decide) hW hl.1 rfl rfl rfl d_O_rank_12) hW (fun x3 z2 H locs hP hW => ?_)
  refine lv_lstore_n (lv' := [(1, .long x3), (0, .ref (ha G 0))]) hx hb d_O_rank_15 rfl hl (by decide) rfl (fun ls hl => ?_)
  refine lv_lload_n hx hb d_O_rank_16 rfl (lv_at hl 0 rfl) ?_
  refine lv_lconst (v := 0) hx hb d_O_rank_17 (by decide) ?_
  refine W.lcmp hx hb d_O_rank_18 ?_
  refine lv_if_ge (tgt := 32) hx hb d_O_rank_19 rfl (fun hc => ?_) (fun hc => ?_)
  · have hP := hP.1 (lgc_get hc)
    refine lv_lload_n hx hb d_O_rank_32 rfl (lv_at hl 0 rfl) ?_
    exact yr_lX hx hb hr hlk hW hP d_O_rank_33
  · have hP := hP.2 (lgc_gef hc)
    exact yt (k := 2) hx hb hown hlk hex hE hW hl.1 hml (by decide) (by decide) (fun _ h => lt_O_2_204 h) d_O_rank_22 d_O_rank_25 (Or.inl ⟨d_O_rank_26, rfl⟩) d_O_rank_28 d_O_rank_31 hP (fun _ _ h1 h2 => Or.inr ⟨h1, h2⟩)
theorem d_S_hasEmptyPlace_0 : decode cc_S_hasEmptyPlace 0 = .ok (.aload_n 0, 1) := by decide +kernel
theorem d_S_hasEmptyPlace_1 : decode cc_S_hasEmptyPlace 1 = .ok (.getfield 32, 3) := by decide +kernel
theorem d_S_hasEmptyPlace_4 : decode cc_S_hasEmptyPlace 4 = .ok (.ifCond .lt 7, 3) := by decide +kernel
theorem d_S_hasEmptyPlace_7 : decode cc_S_hasEmptyPlace 7 = .ok (.iconst 1, 1) := by decide +kernel
theorem d_S_hasEmptyPlace_8 : decode cc_S_hasEmptyPlace 8 = .ok (.goto 4, 3) := by decide +kernel
theorem d_S_hasEmptyPlace_11 : decode cc_S_hasEmptyPlace 11 = .ok (.iconst 0, 1) := by decide +kernel
theorem d_S_hasEmptyPlace_12 : decode cc_S_hasEmptyPlace 12 = .ok (.ireturn, 1) := by decide +kernel
def P_S_hasEmptyPlace (z0 : St) (Q : Int32 → St → Prop) : Prop := (((z0.1 26 8) < 0) → Q (0 : Int32) z0) ∧ ((¬ (z0.1 26 8) < 0) → Q (1 : Int32) z0)
set_option maxHeartbeats 4000000 in
set_option maxRecDepth 100000 in
theorem c_S_hasEmptyPlace {l : Launch} {G : GG} (z0 : St) (Q : Int32 → St → Prop) (hP : P_S_hasEmptyPlace z0 Q) : Cti l y_S_hasEmptyPlace cc_S_hasEmptyPlace 1 (some .boolean) rm_S_hasEmptyPlace G [.ref (ha G 26)] z0 Q := by
  refine Cti.op (own := R_S) (by decide) rfl (Nat.le_of_ble_eq_true rfl) (fun p e s m args below meth c ls E hl hW => ?_)
  obtain ⟨hx, hb, hml, hown, hr, hlk, hex, hE⟩ := id E
  have hl : lv_has ls 1 [(0, .ref (ha G 26))] := hl
  refine lv_aload_n hx hb d_S_hasEmptyPlace_0 rfl (lv_at hl 0 rfl) ?_
  refine ygf_26_8 hx hb hown hE hW (lk_S_32 hE) d_S_hasEmptyPlace_1 ?_
  refine lv_if_lt (tgt := 11) hx hb d_S_hasEmptyPlace_4 rfl (fun hc => ?_) (fun hc => ?_)
  · have hP := hP.1 hc
    refine lv_iconst (v := 0) hx hb d_S_hasEmptyPlace_11 (by decide) ?_
    exact yr_z hx hb hr hlk hW zb_0 hP d_S_hasEmptyPlace_12
  · have hP := hP.2 hc
    refine lv_iconst (v := 1) hx hb d_S_hasEmptyPlace_7 (by decide) ?_
    refine lv_goto (tgt := 12) hx hb d_S_hasEmptyPlace_8 rfl ?_
    exact yr_z hx hb hr hlk hW zb_1 hP d_S_hasEmptyPlace_12
def L_A_fill3_5 (Q : St → Prop) : Nat → Int32 → Int32 → Int32 → St → Prop
  | 0, _, _, _, _ => False
  | n + 1, v1, v2, v3, z0 => ((v3 ≤ v2) → Q z0) ∧ ((¬ v3 ≤ v2) → vp_in v2 12 ∧ ∀ z1 : St, z1 = wI z0 28 v2.toNatClampNeg v1 → ∀ x2 : Int32, x2 = v2 + 1 → L_A_fill3_5 Q n v1 x2 v3 z1)
def P_A_fill3 (a1 : Int32) (z0 : St) (Q : St → Prop) : Prop := ∃ k5 : Nat, L_A_fill3_5 Q k5 a1 (0 : Int32) (12 : Int32) z0
set_option maxHeartbeats 4000000 in
set_option maxRecDepth 100000 in
theorem wL_A_fill3_5 {Q : St → Prop} (E : En p l s m meth c args cc_A_fill2 4 R_A none G) :
    ∀ (n : Nat) (v1 : Int32) (v2 : Int32) (v3 : Int32) (z0 : St) (ls : Array Slot) (H : Heap) (locs : List Loc), L_A_fill3_5 Q n v1 v2 v3 z0 → lv_has ls 4 [(0, .ref (ha G 28)), (1, .int v1), (2, .int v2), (3, .int v3)] → Wd G z0 s.heap H locs → W p l e rm_A_fill3 s m args below meth c H locs 0 0 (MQ below (QvR Q G) args s 0 0 (fr G)) (F0 m 5 ls []) := by
  obtain ⟨hx, hb, hml, hown, hr, hlk, hex, hE⟩ := id E
  intro n
  induction n with
  | zero => exact fun _ _ _ _ _ _ _ hP _ _ => hP.elim
  | succ n ih =>
    intro v1 v2 v3 z0 ls H locs hP hl hW
    refine lv_iload_n hx hb d_A_fill2_5 rfl (lv_at hl 2 rfl) ?_
    refine lv_iload_n hx hb d_A_fill2_6 rfl (lv_at hl 3 rfl) ?_
    refine lv_icmp_ge (tgt := 20) hx hb d_A_fill2_7 rfl (fun hc => ?_) (fun hc => ?_)
    · have hP := hP.1 hc
      exact yr_v hx hb hr hlk hW hP d_A_fill2_20
    · have hP := hP.2 hc
      refine lv_aload_n hx hb d_A_fill2_10 rfl (lv_at hl 0 rfl) ?_
      refine lv_iload_n hx hb d_A_fill2_11 rfl (lv_at hl 2 rfl) ?_
      refine lv_iload_n hx hb d_A_fill2_12 rfl (lv_at hl 1 rfl) ?_
      refine ys_28 hx hb hE hW hP.1 d_A_fill2_13 (fun z1 H locs e_z1 hW => ?_)
      have hP := hP.2
      have hP := hP z1 e_z1
      obtain ⟨x2, e_x2⟩ : ∃ z : Int32, z = v2 + 1 := ⟨_, rfl⟩
      have hP := hP x2 e_x2
      refine lv_iinc (k := 2) (lv' := [(2, .int x2), (0, .ref (ha G 28)), (1, .int v1), (3, .int v3)]) hx hb d_A_fill2_14 hl rfl (ii_p1 e_x2) (by decide) rfl (fun ls hl => ?_)
      refine lv_goto (tgt := 5) hx hb d_A_fill2_17 rfl ?_
      exact ih _ _ _ _ _ _ _ hP (lv_sub hl [1, 2, 0, 3] rfl) hW
set_option maxHeartbeats 4000000 in
set_option maxRecDepth 100000 in
theorem c_A_fill3 {l : Launch} {G : GG} (a1 : Int32) (z0 : St) (Q : St → Prop) (hP : P_A_fill3 a1 z0 Q) : Ctv l y_A_fill2 cc_A_fill2 4 none rm_A_fill3 G [.ref (ha G 28), .int a1] z0 Q := by
  refine Ctv.op (own := R_A) (by decide) rfl (Nat.le_of_ble_eq_true rfl) (fun p e s m args below meth c ls E hl hW => ?_)
  obtain ⟨hx, hb, hml, hown, hr, hlk, hex, hE⟩ := id E
  have hl : lv_has ls 4 [(0, .ref (ha G 28)), (1, .int a1)] := hl
  refine lv_iconst (v := 0) hx hb d_A_fill2_0 (by decide) ?_
  refine lv_istore_n (lv' := [(2, .int (0 : Int32)), (0, .ref (ha G 28)), (1, .int a1)]) hx hb d_A_fill2_1 rfl hl (by decide) rfl (fun ls hl => ?_)
  refine lv_aload_n hx hb d_A_fill2_2 rfl (lv_at hl 1 rfl) ?_
  refine yn_28 hx hb hE hW d_A_fill2_3 ?_
  refine lv_istore_n (lv' := [(3, .int (12 : Int32)), (2, .int (0 : Int32)), (0, .ref (ha G 28)), (1, .int a1)]) hx hb d_A_fill2_4 rfl hl (by decide) rfl (fun ls hl => ?_)
  obtain ⟨n2, hP⟩ := hP
  refine wL_A_fill3_5 E n2 _ _ _ _ _ _ _ hP (lv_sub hl [2, 3, 1, 0] rfl) hW
theorem d_S_addValuesOf_0 : decode cc_S_addValuesOf 0 = .ok (.iload_n 1, 1) := by decide +kernel
theorem d_S_addValuesOf_1 : decode cc_S_addValuesOf 1 = .ok (.iconst (-1), 1) := by decide +kernel
theorem d_S_addValuesOf_2 : decode cc_S_addValuesOf 2 = .ok (.if_icmp .eq 42, 3) := by decide +kernel
theorem d_S_addValuesOf_5 : decode cc_S_addValuesOf 5 = .ok (.iconst 0, 1) := by decide +kernel
theorem d_S_addValuesOf_6 : decode cc_S_addValuesOf 6 = .ok (.istore_n 2, 1) := by decide +kernel
theorem d_S_addValuesOf_7 : decode cc_S_addValuesOf 7 = .ok (.iload_n 2, 1) := by decide +kernel
theorem d_S_addValuesOf_8 : decode cc_S_addValuesOf 8 = .ok (.iconst 3, 1) := by decide +kernel
theorem d_S_addValuesOf_9 : decode cc_S_addValuesOf 9 = .ok (.if_icmp .ge 35, 3) := by decide +kernel
theorem d_S_addValuesOf_12 : decode cc_S_addValuesOf 12 = .ok (.aload_n 0, 1) := by decide +kernel
theorem d_S_addValuesOf_13 : decode cc_S_addValuesOf 13 = .ok (.getfield 15, 3) := by decide +kernel
theorem d_S_addValuesOf_16 : decode cc_S_addValuesOf 16 = .ok (.iload_n 2, 1) := by decide +kernel
theorem d_S_addValuesOf_17 : decode cc_S_addValuesOf 17 = .ok (.aload_n 0, 1) := by decide +kernel
theorem d_S_addValuesOf_18 : decode cc_S_addValuesOf 18 = .ok (.getfield 35, 3) := by decide +kernel
theorem d_S_addValuesOf_21 : decode cc_S_addValuesOf 21 = .ok (.getfield 99, 3) := by decide +kernel
theorem d_S_addValuesOf_24 : decode cc_S_addValuesOf 24 = .ok (.iload_n 1, 1) := by decide +kernel
theorem d_S_addValuesOf_25 : decode cc_S_addValuesOf 25 = .ok (.iaload, 1) := by decide +kernel
theorem d_S_addValuesOf_26 : decode cc_S_addValuesOf 26 = .ok (.iload_n 2, 1) := by decide +kernel
theorem d_S_addValuesOf_27 : decode cc_S_addValuesOf 27 = .ok (.invokestatic 102, 3) := by decide +kernel
theorem d_S_addValuesOf_30 : decode cc_S_addValuesOf 30 = .ok (.invokestatic 91, 3) := by decide +kernel
theorem d_S_addValuesOf_33 : decode cc_S_addValuesOf 33 = .ok (.dup2, 1) := by decide +kernel
theorem d_S_addValuesOf_34 : decode cc_S_addValuesOf 34 = .ok (.iaload, 1) := by decide +kernel
theorem d_S_addValuesOf_35 : decode cc_S_addValuesOf 35 = .ok (.iconst 1, 1) := by decide +kernel
theorem d_S_addValuesOf_36 : decode cc_S_addValuesOf 36 = .ok (.iadd, 1) := by decide +kernel
theorem d_S_addValuesOf_37 : decode cc_S_addValuesOf 37 = .ok (.iastore, 1) := by decide +kernel
theorem d_S_addValuesOf_38 : decode cc_S_addValuesOf 38 = .ok (.iinc 2 1, 3) := by decide +kernel
theorem d_S_addValuesOf_41 : decode cc_S_addValuesOf 41 = .ok (.goto (-34), 3) := by decide +kernel
theorem d_S_addValuesOf_44 : decode cc_S_addValuesOf 44 = .ok (.return_, 1) := by decide +kernel
def L_S_addValuesOf_7 (Q : St → Prop) : Nat → Int32 → Int32 → St → Prop
  | 0, _, _, _ => False
  | n + 1, v1, v2, z0 => (((3 : Int32) ≤ v2) → Q z0) ∧ ((¬ (3 : Int32) ≤ v2) → vp_in v1 40 ∧ P_P_valueIn (z0.1 3 v1.toNatClampNeg) v2 z0 (fun (x2 : Int32) (z1 : St) => P_O_quotaOf v2 x2 z1 (fun (x4 : Int32) (z3 : St) => vp_in x4 12 ∧ vp_in x4 12 ∧ ∀ z5 : St, z5 = wI z3 28 x4.toNatClampNeg ((z3.1 28 x4.toNatClampNeg) + (1 : Int32)) → ∀ x6 : Int32, x6 = v2 + 1 → L_S_addValuesOf_7 Q n v1 x6 z5)))
def P_S_addValuesOf (a1 : Int32) (z0 : St) (Q : St → Prop) : Prop := ((a1 = (-1 : Int32)) → Q z0) ∧ ((¬ a1 = (-1 : Int32)) → ∃ k7 : Nat, L_S_addValuesOf_7 Q k7 a1 (0 : Int32) z0)
set_option maxHeartbeats 4000000 in
set_option maxRecDepth 100000 in
theorem wL_S_addValuesOf_7 {Q : St → Prop} (E : En p l s m meth c args cc_S_addValuesOf 3 R_S none G) :
    ∀ (n : Nat) (v1 : Int32) (v2 : Int32) (z0 : St) (ls : Array Slot) (H : Heap) (locs : List Loc), L_S_addValuesOf_7 Q n v1 v2 z0 → lv_has ls 3 [(0, .ref (ha G 26)), (1, .int v1), (2, .int v2)] → Wd G z0 s.heap H locs → W p l e rm_S_addValuesOf s m args below meth c H locs 0 0 (MQ below (QvR Q G) args s 0 0 (fr G)) (F0 m 7 ls []) := by
  obtain ⟨hx, hb, hml, hown, hr, hlk, hex, hE⟩ := id E
  intro n
  induction n with
  | zero => exact fun _ _ _ _ _ _ hP _ _ => hP.elim
  | succ n ih =>
    intro v1 v2 z0 ls H locs hP hl hW
    refine lv_iload_n hx hb d_S_addValuesOf_7 rfl (lv_at hl 2 rfl) ?_
    refine lv_iconst (v := 3) hx hb d_S_addValuesOf_8 (by decide) ?_
    refine lv_icmp_ge (tgt := 44) hx hb d_S_addValuesOf_9 rfl (fun hc => ?_) (fun hc => ?_)
    · have hP := hP.1 hc
      exact yr_v hx hb hr hlk hW hP d_S_addValuesOf_44
    · have hP := hP.2 hc
      refine lv_aload_n hx hb d_S_addValuesOf_12 rfl (lv_at hl 0 rfl) ?_
      refine ygf_26_3 hx hb hown hE hW (lk_S_15 hE) d_S_addValuesOf_13 ?_
      refine lv_iload_n hx hb d_S_addValuesOf_16 rfl (lv_at hl 2 rfl) ?_
      refine lv_aload_n hx hb d_S_addValuesOf_17 rfl (lv_at hl 0 rfl) ?_
      refine ygf_26_0 hx hb hown hE hW (lk_S_35 hE) d_S_addValuesOf_18 ?_
      refine ygn_1_1 hx hb hown hE hW (lk_S_99 hE) d_S_addValuesOf_21 ?_
      refine lv_iload_n hx hb d_S_addValuesOf_24 rfl (lv_at hl 1 rfl) ?_
      refine ya_3 hx hb hE hW hP.1 d_S_addValuesOf_25 ?_
      have hP := hP.2
      refine lv_iload_n hx hb d_S_addValuesOf_26 rfl (lv_at hl 2 rfl) ?_
      refine yc_i (yS (As := [.int (z0.1 3 v1.toNatClampNeg), .int v2]) (rest := [.int v2, .ref (ha G 28)]) E (c_P_valueIn _ _ _ _ hP) (cw_S_102 hE) (by decide) hW hl.1 rfl rfl rfl d_S_addValuesOf_27) hW (fun x2 z1 H locs hP hW => ?_)
      refine yc_i (ySN (As := [.int v2, .int x2]) (rest := [.ref (ha G 28)]) E (c_O_quotaOf _ _ _ _ hP) (cw_S_91 hE) (by decide) hW hl.1 rfl rfl rfl d_S_addValuesOf_30) hW (fun x4 z3 H locs hP hW => ?_)
      refine lv_dup2_11 hx hb d_S_addValuesOf_33 rfl rfl ?_
      refine ya_28 hx hb hE hW hP.1 d_S_addValuesOf_34 ?_
      have hP := hP.2
      refine lv_iconst (v := 1) hx hb d_S_addValuesOf_35 (by decide) ?_
      refine lv_iadd hx hb d_S_addValuesOf_36 ?_
      refine ys_28 hx hb hE hW hP.1 d_S_addValuesOf_37 (fun z5 H locs e_z5 hW => ?_)
      have hP := hP.2
      have hP := hP z5 e_z5
      obtain ⟨x6, e_x6⟩ : ∃ z : Int32, z = v2 + 1 := ⟨_, rfl⟩
      have hP := hP x6 e_x6
      refine lv_iinc (k := 2) (lv' := [(2, .int x6), (0, .ref (ha G 26)), (1, .int v1)]) hx hb d_S_addValuesOf_38 hl rfl (ii_p1 e_x6) (by decide) rfl (fun ls hl => ?_)
      refine lv_goto (tgt := 7) hx hb d_S_addValuesOf_41 rfl ?_
      exact ih _ _ _ _ _ _ hP (lv_sub hl [1, 2, 0] rfl) hW
set_option maxHeartbeats 4000000 in
set_option maxRecDepth 100000 in
theorem c_S_addValuesOf {l : Launch} {G : GG} (a1 : Int32) (z0 : St) (Q : St → Prop) (hP : P_S_addValuesOf a1 z0 Q) : Ctv l y_S_addValuesOf cc_S_addValuesOf 3 none rm_S_addValuesOf G [.ref (ha G 26), .int a1] z0 Q := by
  refine Ctv.op (own := R_S) (by decide) rfl (Nat.le_of_ble_eq_true rfl) (fun p e s m args below meth c ls E hl hW => ?_)
  obtain ⟨hx, hb, hml, hown, hr, hlk, hex, hE⟩ := id E
  have hl : lv_has ls 3 [(0, .ref (ha G 26)), (1, .int a1)] := hl
  refine lv_iload_n hx hb d_S_addValuesOf_0 rfl (lv_at hl 1 rfl) ?_
  refine lv_iconst (v := -1) hx hb d_S_addValuesOf_1 (by decide) ?_
  refine lv_icmp_eq (tgt := 44) hx hb d_S_addValuesOf_2 rfl (fun hc => ?_) (fun hc => ?_)
  · have hP := hP.1 hc
    exact yr_v hx hb hr hlk hW hP d_S_addValuesOf_44
  · have hP := hP.2 hc
    refine lv_iconst (v := 0) hx hb d_S_addValuesOf_5 (by decide) ?_
    refine lv_istore_n (lv' := [(2, .int (0 : Int32)), (0, .ref (ha G 26)), (1, .int a1)]) hx hb d_S_addValuesOf_6 rfl hl (by decide) rfl (fun ls hl => ?_)
    obtain ⟨n2, hP⟩ := hP
    refine wL_S_addValuesOf_7 E n2 _ _ _ _ _ _ hP (lv_sub hl [1, 2, 0] rfl) hW
theorem d_Q_breachBy_0 : decode cc_Q_breachBy 0 = .ok (.iconst 0, 1) := by decide +kernel
theorem d_Q_breachBy_1 : decode cc_Q_breachBy 1 = .ok (.aload_n 0, 1) := by decide +kernel
theorem d_Q_breachBy_2 : decode cc_Q_breachBy 2 = .ok (.getfield 9, 3) := by decide +kernel
theorem d_Q_breachBy_5 : decode cc_Q_breachBy 5 = .ok (.iload_n 1, 1) := by decide +kernel
theorem d_Q_breachBy_6 : decode cc_Q_breachBy 6 = .ok (.iaload, 1) := by decide +kernel
theorem d_Q_breachBy_7 : decode cc_Q_breachBy 7 = .ok (.iload_n 2, 1) := by decide +kernel
theorem d_Q_breachBy_8 : decode cc_Q_breachBy 8 = .ok (.isub, 1) := by decide +kernel
theorem d_Q_breachBy_9 : decode cc_Q_breachBy 9 = .ok (.invokestatic 28, 3) := by decide +kernel
theorem d_Q_breachBy_12 : decode cc_Q_breachBy 12 = .ok (.iconst 0, 1) := by decide +kernel
theorem d_Q_breachBy_13 : decode cc_Q_breachBy 13 = .ok (.iload_n 2, 1) := by decide +kernel
theorem d_Q_breachBy_14 : decode cc_Q_breachBy 14 = .ok (.aload_n 0, 1) := by decide +kernel
theorem d_Q_breachBy_15 : decode cc_Q_breachBy 15 = .ok (.getfield 15, 3) := by decide +kernel
theorem d_Q_breachBy_18 : decode cc_Q_breachBy 18 = .ok (.iload_n 1, 1) := by decide +kernel
theorem d_Q_breachBy_19 : decode cc_Q_breachBy 19 = .ok (.iaload, 1) := by decide +kernel
theorem d_Q_breachBy_20 : decode cc_Q_breachBy 20 = .ok (.isub, 1) := by decide +kernel
theorem d_Q_breachBy_21 : decode cc_Q_breachBy 21 = .ok (.invokestatic 28, 3) := by decide +kernel
theorem d_Q_breachBy_24 : decode cc_Q_breachBy 24 = .ok (.iadd, 1) := by decide +kernel
theorem d_Q_breachBy_25 : decode cc_Q_breachBy 25 = .ok (.ireturn, 1) := by decide +kernel
def P_Q_breachBy (a1 : Int32) (a2 : Int32) (z0 : St) (Q : Int32 → St → Prop) : Prop := vp_in a1 12 ∧ vp_in a1 12 ∧ Q ((mmaxI (0 : Int32) ((z0.1 7 a1.toNatClampNeg) - a2)) + (mmaxI (0 : Int32) (a2 - (z0.1 8 a1.toNatClampNeg)))) z0
set_option maxHeartbeats 4000000 in
set_option maxRecDepth 100000 in
theorem c_Q_breachBy {l : Launch} {G : GG} (a1 : Int32) (a2 : Int32) (z0 : St) (Q : Int32 → St → Prop) (hP : P_Q_breachBy a1 a2 z0 Q) : Cti l y_Q_breachBy cc_Q_breachBy 3 (some .int) rm_Q_breachBy G [.ref (ha G 6), .int a1, .int a2] z0 Q := by
  refine Cti.op (own := R_Q) (by decide) rfl (Nat.le_of_ble_eq_true rfl) (fun p e s m args below meth c ls E hl hW => ?_)
  obtain ⟨hx, hb, hml, hown, hr, hlk, hex, hE⟩ := id E
  have hl : lv_has ls 3 [(0, .ref (ha G 6)), (1, .int a1), (2, .int a2)] := hl
  refine lv_iconst (v := 0) hx hb d_Q_breachBy_0 (by decide) ?_
  refine lv_aload_n hx hb d_Q_breachBy_1 rfl (lv_at hl 0 rfl) ?_
  refine ygf_6_0 hx hb hown hE hW (lk_Q_9 hE) d_Q_breachBy_2 ?_
  refine lv_iload_n hx hb d_Q_breachBy_5 rfl (lv_at hl 1 rfl) ?_
  refine ya_7 hx hb hE hW hP.1 d_Q_breachBy_6 ?_
  have hP := hP.2
  refine lv_iload_n hx hb d_Q_breachBy_7 rfl (lv_at hl 2 rfl) ?_
  refine lv_isub hx hb d_Q_breachBy_8 ?_
  refine ym_maxI (rest := []) hx hb (hml.trans hl.1.symm) hown hE (lk_Q_28 hE) (by decide) rfl d_Q_breachBy_9 ?_
  refine lv_iconst (v := 0) hx hb d_Q_breachBy_12 (by decide) ?_
  refine lv_iload_n hx hb d_Q_breachBy_13 rfl (lv_at hl 2 rfl) ?_
  refine lv_aload_n hx hb d_Q_breachBy_14 rfl (lv_at hl 0 rfl) ?_
  refine ygf_6_1 hx hb hown hE hW (lk_Q_15 hE) d_Q_breachBy_15 ?_
  refine lv_iload_n hx hb d_Q_breachBy_18 rfl (lv_at hl 1 rfl) ?_
  refine ya_8 hx hb hE hW hP.1 d_Q_breachBy_19 ?_
  have hP := hP.2
  refine lv_isub hx hb d_Q_breachBy_20 ?_
  refine ym_maxI (rest := [.int (mmaxI (0 : Int32) ((z0.1 7 a1.toNatClampNeg) - a2))]) hx hb (hml.trans hl.1.symm) hown hE (lk_Q_28 hE) (by decide) rfl d_Q_breachBy_21 ?_
  refine lv_iadd hx hb d_Q_breachBy_24 ?_
  exact yr_i hx hb hr hlk hW hP d_Q_breachBy_25
theorem d_S_breachWith_0 : decode cc_S_breachWith 0 = .ok (.aload_n 0, 1) := by decide +kernel
theorem d_S_breachWith_1 : decode cc_S_breachWith 1 = .ok (.getfield 15, 3) := by decide +kernel
theorem d_S_breachWith_4 : decode cc_S_breachWith 4 = .ok (.iconst 0, 1) := by decide +kernel
theorem d_S_breachWith_5 : decode cc_S_breachWith 5 = .ok (.invokestatic 78, 3) := by decide +kernel
theorem d_S_breachWith_8 : decode cc_S_breachWith 8 = .ok (.iconst 0, 1) := by decide +kernel
theorem d_S_breachWith_9 : decode cc_S_breachWith 9 = .ok (.istore_n 2, 1) := by decide +kernel
theorem d_S_breachWith_10 : decode cc_S_breachWith 10 = .ok (.iload_n 2, 1) := by decide +kernel
theorem d_S_breachWith_11 : decode cc_S_breachWith 11 = .ok (.aload_n 0, 1) := by decide +kernel
theorem d_S_breachWith_12 : decode cc_S_breachWith 12 = .ok (.getfield 21, 3) := by decide +kernel
theorem d_S_breachWith_15 : decode cc_S_breachWith 15 = .ok (.if_icmp .ge 19, 3) := by decide +kernel
theorem d_S_breachWith_18 : decode cc_S_breachWith 18 = .ok (.aload_n 0, 1) := by decide +kernel
theorem d_S_breachWith_19 : decode cc_S_breachWith 19 = .ok (.aload_n 0, 1) := by decide +kernel
theorem d_S_breachWith_20 : decode cc_S_breachWith 20 = .ok (.getfield 9, 3) := by decide +kernel
theorem d_S_breachWith_23 : decode cc_S_breachWith 23 = .ok (.iload_n 2, 1) := by decide +kernel
theorem d_S_breachWith_24 : decode cc_S_breachWith 24 = .ok (.iaload, 1) := by decide +kernel
theorem d_S_breachWith_25 : decode cc_S_breachWith 25 = .ok (.invokevirtual 84, 3) := by decide +kernel
theorem d_S_breachWith_28 : decode cc_S_breachWith 28 = .ok (.iinc 2 1, 3) := by decide +kernel
theorem d_S_breachWith_31 : decode cc_S_breachWith 31 = .ok (.goto (-21), 3) := by decide +kernel
theorem d_S_breachWith_34 : decode cc_S_breachWith 34 = .ok (.aload_n 0, 1) := by decide +kernel
theorem d_S_breachWith_35 : decode cc_S_breachWith 35 = .ok (.iload_n 1, 1) := by decide +kernel
theorem d_S_breachWith_36 : decode cc_S_breachWith 36 = .ok (.invokevirtual 84, 3) := by decide +kernel
theorem d_S_breachWith_39 : decode cc_S_breachWith 39 = .ok (.iconst 0, 1) := by decide +kernel
theorem d_S_breachWith_40 : decode cc_S_breachWith 40 = .ok (.istore_n 2, 1) := by decide +kernel
theorem d_S_breachWith_41 : decode cc_S_breachWith 41 = .ok (.iconst 0, 1) := by decide +kernel
theorem d_S_breachWith_42 : decode cc_S_breachWith 42 = .ok (.istore_n 3, 1) := by decide +kernel
theorem d_S_breachWith_43 : decode cc_S_breachWith 43 = .ok (.iload_n 3, 1) := by decide +kernel
theorem d_S_breachWith_44 : decode cc_S_breachWith 44 = .ok (.iconst 3, 1) := by decide +kernel
theorem d_S_breachWith_45 : decode cc_S_breachWith 45 = .ok (.if_icmp .ge 59, 3) := by decide +kernel
theorem d_S_breachWith_48 : decode cc_S_breachWith 48 = .ok (.iconst 0, 1) := by decide +kernel
theorem d_S_breachWith_49 : decode cc_S_breachWith 49 = .ok (.istore 4, 2) := by decide +kernel
theorem d_S_breachWith_51 : decode cc_S_breachWith 51 = .ok (.iload 4, 2) := by decide +kernel
theorem d_S_breachWith_53 : decode cc_S_breachWith 53 = .ok (.aload_n 0, 1) := by decide +kernel
theorem d_S_breachWith_54 : decode cc_S_breachWith 54 = .ok (.getfield 35, 3) := by decide +kernel
theorem d_S_breachWith_57 : decode cc_S_breachWith 57 = .ok (.getfield 88, 3) := by decide +kernel
theorem d_S_breachWith_60 : decode cc_S_breachWith 60 = .ok (.iload_n 3, 1) := by decide +kernel
theorem d_S_breachWith_61 : decode cc_S_breachWith 61 = .ok (.iaload, 1) := by decide +kernel
theorem d_S_breachWith_62 : decode cc_S_breachWith 62 = .ok (.if_icmp .ge 36, 3) := by decide +kernel
theorem d_S_breachWith_65 : decode cc_S_breachWith 65 = .ok (.iload_n 3, 1) := by decide +kernel
theorem d_S_breachWith_66 : decode cc_S_breachWith 66 = .ok (.iload 4, 2) := by decide +kernel
theorem d_S_breachWith_68 : decode cc_S_breachWith 68 = .ok (.invokestatic 91, 3) := by decide +kernel
theorem d_S_breachWith_71 : decode cc_S_breachWith 71 = .ok (.istore 5, 2) := by decide +kernel
theorem d_S_breachWith_73 : decode cc_S_breachWith 73 = .ok (.iload_n 2, 1) := by decide +kernel
theorem d_S_breachWith_74 : decode cc_S_breachWith 74 = .ok (.aload_n 0, 1) := by decide +kernel
theorem d_S_breachWith_75 : decode cc_S_breachWith 75 = .ok (.getfield 39, 3) := by decide +kernel
theorem d_S_breachWith_78 : decode cc_S_breachWith 78 = .ok (.iload 5, 2) := by decide +kernel
theorem d_S_breachWith_80 : decode cc_S_breachWith 80 = .ok (.aload_n 0, 1) := by decide +kernel
theorem d_S_breachWith_81 : decode cc_S_breachWith 81 = .ok (.getfield 15, 3) := by decide +kernel
theorem d_S_breachWith_84 : decode cc_S_breachWith 84 = .ok (.iload 5, 2) := by decide +kernel
theorem d_S_breachWith_86 : decode cc_S_breachWith 86 = .ok (.iaload, 1) := by decide +kernel
theorem d_S_breachWith_87 : decode cc_S_breachWith 87 = .ok (.invokevirtual 94, 3) := by decide +kernel
theorem d_S_breachWith_90 : decode cc_S_breachWith 90 = .ok (.iadd, 1) := by decide +kernel
theorem d_S_breachWith_91 : decode cc_S_breachWith 91 = .ok (.istore_n 2, 1) := by decide +kernel
theorem d_S_breachWith_92 : decode cc_S_breachWith 92 = .ok (.iinc 4 1, 3) := by decide +kernel
theorem d_S_breachWith_95 : decode cc_S_breachWith 95 = .ok (.goto (-44), 3) := by decide +kernel
theorem d_S_breachWith_98 : decode cc_S_breachWith 98 = .ok (.iinc 3 1, 3) := by decide +kernel
theorem d_S_breachWith_101 : decode cc_S_breachWith 101 = .ok (.goto (-58), 3) := by decide +kernel
theorem d_S_breachWith_104 : decode cc_S_breachWith 104 = .ok (.iload_n 2, 1) := by decide +kernel
theorem d_S_breachWith_105 : decode cc_S_breachWith 105 = .ok (.ireturn, 1) := by decide +kernel
def L_S_breachWith_10 (K34 : Int32 → St → Prop) (Q : Int32 → St → Prop) : Nat → Int32 → Int32 → St → Prop
  | 0, _, _, _ => False
  | n + 1, v1, v2, z0 => (((z0.1 26 5) ≤ v2) → K34 v1 z0) ∧ ((¬ (z0.1 26 5) ≤ v2) → vp_in v2 8 ∧ P_S_addValuesOf (z0.1 27 v2.toNatClampNeg) z0 (fun (z2 : St) => ∀ x3 : Int32, x3 = v2 + 1 → L_S_breachWith_10 K34 Q n v1 x3 z2))
def L_S_breachWith_51 (K98 : Int32 → Int32 → St → Prop) (Q : Int32 → St → Prop) : Nat → Int32 → Int32 → Int32 → St → Prop
  | 0, _, _, _, _ => False
  | n + 1, v2, v3, v4, z0 => vp_in v3 3 ∧ (((z0.1 2 v3.toNatClampNeg) ≤ v4) → K98 v2 v3 z0) ∧ ((¬ (z0.1 2 v3.toNatClampNeg) ≤ v4) → P_O_quotaOf v3 v4 z0 (fun (x8 : Int32) (z7 : St) => vp_in x8 12 ∧ P_Q_breachBy x8 (z7.1 28 x8.toNatClampNeg) z7 (fun (x10 : Int32) (z9 : St) => ∀ x11 : Int32, x11 = v2 + x10 → ∀ x12 : Int32, x12 = v4 + 1 → L_S_breachWith_51 K98 Q n x11 v3 x12 z9)))
def L_S_breachWith_43 (Q : Int32 → St → Prop) : Nat → Int32 → Int32 → St → Prop
  | 0, _, _, _ => False
  | n + 1, v2, v3, z0 => (((3 : Int32) ≤ v3) → Q v2 z0) ∧ ((¬ (3 : Int32) ≤ v3) → ∃ k51 : Nat, L_S_breachWith_51 (fun (x13 : Int32) (x14 : Int32) (z15 : St) => ∀ x16 : Int32, x16 = x14 + 1 → L_S_breachWith_43 Q n x13 x16 z15) Q k51 v2 v3 (0 : Int32) z0)
def P_S_breachWith (a1 : Int32) (z0 : St) (Q : Int32 → St → Prop) : Prop := P_A_fill3 (0 : Int32) z0 (fun (z1 : St) => ∃ k10 : Nat, L_S_breachWith_10 (fun (x4 : Int32) (z5 : St) => P_S_addValuesOf x4 z5 (fun (z6 : St) => ∃ k43 : Nat, L_S_breachWith_43 Q k43 (0 : Int32) (0 : Int32) z6)) Q k10 a1 (0 : Int32) z1)
set_option maxHeartbeats 4000000 in
set_option maxRecDepth 100000 in
theorem wL_S_breachWith_10 {K34 : Int32 → St → Prop} {Q : Int32 → St → Prop} (E : En p l s m meth c args cc_S_breachWith 6 R_S (some .int) G)
    (hK34 : ∀ (v1 : Int32) (z0 : St) (ls : Array Slot) (H : Heap) (locs : List Loc), K34 v1 z0 → lv_has ls 6 [(0, .ref (ha G 26)), (1, .int v1)] → Wd G z0 s.heap H locs → W p l e rm_S_breachWith s m args below meth c H locs 0 0 (MQ below (QiR Q G) args s 0 0 (fr G)) (F0 m 34 ls [])) :
    ∀ (n : Nat) (v1 : Int32) (v2 : Int32) (z0 : St) (ls : Array Slot) (H : Heap) (locs : List Loc), L_S_breachWith_10 K34 Q n v1 v2 z0 → lv_has ls 6 [(0, .ref (ha G 26)), (1, .int v1), (2, .int v2)] → Wd G z0 s.heap H locs → W p l e rm_S_breachWith s m args below meth c H locs 0 0 (MQ below (QiR Q G) args s 0 0 (fr G)) (F0 m 10 ls []) := by
  obtain ⟨hx, hb, hml, hown, hr, hlk, hex, hE⟩ := id E
  intro n
  induction n with
  | zero => exact fun _ _ _ _ _ _ hP _ _ => hP.elim
  | succ n ih =>
    intro v1 v2 z0 ls H locs hP hl hW
    refine lv_iload_n hx hb d_S_breachWith_10 rfl (lv_at hl 2 rfl) ?_
    refine lv_aload_n hx hb d_S_breachWith_11 rfl (lv_at hl 0 rfl) ?_
    refine ygf_26_5 hx hb hown hE hW (lk_S_21 hE) d_S_breachWith_12 ?_
    refine lv_icmp_ge (tgt := 34) hx hb d_S_breachWith_15 rfl (fun hc => ?_) (fun hc => ?_)
    · have hP := hP.1 hc
      exact hK34 _ _ _ _ _ hP (lv_sub hl [0, 1] rfl) hW
    · have hP := hP.2 hc
      refine lv_aload_n hx hb d_S_breachWith_18 rfl (lv_at hl 0 rfl) ?_
      refine lv_aload_n hx hb d_S_breachWith_19 rfl (lv_at hl 0 rfl) ?_
      refine ygf_26_2 hx hb hown hE hW (lk_S_9 hE) d_S_breachWith_20 ?_
      refine lv_iload_n hx hb d_S_breachWith_23 rfl (lv_at hl 2 rfl) ?_
      refine ya_27 hx hb hE hW hP.1 d_S_breachWith_24 ?_
      have hP := hP.2
      refine yc_v (yV (As := [.int (z0.1 27 v2.toNatClampNeg)]) (rest := []) E (c_S_addValuesOf _ _ _ hP) (cw_S_84 hE) (yrv_26 hE hW) (by decide) hW hl.1 rfl rfl rfl d_S_breachWith_25) hW (fun z2 H locs hP hW => ?_)
      obtain ⟨x3, e_x3⟩ : ∃ z : Int32, z = v2 + 1 := ⟨_, rfl⟩
      have hP := hP x3 e_x3
      refine lv_iinc (k := 2) (lv' := [(2, .int x3), (0, .ref (ha G 26)), (1, .int v1)]) hx hb d_S_breachWith_28 hl rfl (ii_p1 e_x3) (by decide) rfl (fun ls hl => ?_)
      refine lv_goto (tgt := 10) hx hb d_S_breachWith_31 rfl ?_
      exact ih _ _ _ _ _ _ hP (lv_sub hl [1, 2, 0] rfl) hW
set_option maxHeartbeats 4000000 in
set_option maxRecDepth 100000 in
theorem wL_S_breachWith_51 {K98 : Int32 → Int32 → St → Prop} {Q : Int32 → St → Prop} (E : En p l s m meth c args cc_S_breachWith 6 R_S (some .int) G)
    (hK98 : ∀ (v2 : Int32) (v3 : Int32) (z0 : St) (ls : Array Slot) (H : Heap) (locs : List Loc), K98 v2 v3 z0 → lv_has ls 6 [(0, .ref (ha G 26)), (2, .int v2), (3, .int v3)] → Wd G z0 s.heap H locs → W p l e rm_S_breachWith s m args below meth c H locs 0 0 (MQ below (QiR Q G) args s 0 0 (fr G)) (F0 m 98 ls [])) :
    ∀ (n : Nat) (v2 : Int32) (v3 : Int32) (v4 : Int32) (z0 : St) (ls : Array Slot) (H : Heap) (locs : List Loc), L_S_breachWith_51 K98 Q n v2 v3 v4 z0 → lv_has ls 6 [(0, .ref (ha G 26)), (2, .int v2), (3, .int v3), (4, .int v4)] → Wd G z0 s.heap H locs → W p l e rm_S_breachWith s m args below meth c H locs 0 0 (MQ below (QiR Q G) args s 0 0 (fr G)) (F0 m 51 ls []) := by
  obtain ⟨hx, hb, hml, hown, hr, hlk, hex, hE⟩ := id E
  intro n
  induction n with
  | zero => exact fun _ _ _ _ _ _ _ hP _ _ => hP.elim
  | succ n ih =>
    intro v2 v3 v4 z0 ls H locs hP hl hW
    refine lv_iload hx hb d_S_breachWith_51 (lv_at hl 3 rfl) ?_
    refine lv_aload_n hx hb d_S_breachWith_53 rfl (lv_at hl 0 rfl) ?_
    refine ygf_26_0 hx hb hown hE hW (lk_S_35 hE) d_S_breachWith_54 ?_
    refine ygn_1_0 hx hb hown hE hW (lk_S_88 hE) d_S_breachWith_57 ?_
    refine lv_iload_n hx hb d_S_breachWith_60 rfl (lv_at hl 2 rfl) ?_
    refine ya_2 hx hb hE hW hP.1 d_S_breachWith_61 ?_
    have hP := hP.2
    refine lv_icmp_ge (tgt := 98) hx hb d_S_breachWith_62 rfl (fun hc => ?_) (fun hc => ?_)
    · have hP := hP.1 hc
      exact hK98 _ _ _ _ _ _ hP (lv_sub hl [0, 1, 2] rfl) hW
    · have hP := hP.2 hc
      refine lv_iload_n hx hb d_S_breachWith_65 rfl (lv_at hl 2 rfl) ?_
      refine lv_iload hx hb d_S_breachWith_66 (lv_at hl 3 rfl) ?_
      refine yc_i (ySN (As := [.int v3, .int v4]) (rest := []) E (c_O_quotaOf _ _ _ _ hP) (cw_S_91 hE) (by decide) hW hl.1 rfl rfl rfl d_S_breachWith_68) hW (fun x8 z7 H locs hP hW => ?_)
      refine lv_istore (lv' := [(5, .int x8), (0, .ref (ha G 26)), (2, .int v2), (3, .int v3), (4, .int v4)]) hx hb d_S_breachWith_71 hl (by decide) rfl (fun ls hl => ?_)
      refine lv_iload_n hx hb d_S_breachWith_73 rfl (lv_at hl 2 rfl) ?_
      refine lv_aload_n hx hb d_S_breachWith_74 rfl (lv_at hl 1 rfl) ?_
      refine ygf_26_1 hx hb hown hE hW (lk_S_39 hE) d_S_breachWith_75 ?_
      refine lv_iload hx hb d_S_breachWith_78 (lv_at hl 0 rfl) ?_
      refine lv_aload_n hx hb d_S_breachWith_80 rfl (lv_at hl 1 rfl) ?_
      refine ygf_26_3 hx hb hown hE hW (lk_S_15 hE) d_S_breachWith_81 ?_
      refine lv_iload hx hb d_S_breachWith_84 (lv_at hl 0 rfl) ?_
      refine ya_28 hx hb hE hW hP.1 d_S_breachWith_86 ?_
      have hP := hP.2
      refine yc_i (yV (As := [.int x8, .int (z7.1 28 x8.toNatClampNeg)]) (rest := [.int v2]) E (c_Q_breachBy _ _ _ _ hP) (cw_S_94 hE) (yrv_6 hE hW) (by decide) hW hl.1 rfl rfl rfl d_S_breachWith_87) hW (fun x10 z9 H locs hP hW => ?_)
      refine lv_iadd hx hb d_S_breachWith_90 ?_
      refine lv_topi (fun x11 e_x11 => ?_)
      have hP := hP x11 e_x11
      refine lv_istore_n (lv' := [(2, .int x11), (5, .int x8), (0, .ref (ha G 26)), (3, .int v3), (4, .int v4)]) hx hb d_S_breachWith_91 rfl hl (by decide) rfl (fun ls hl => ?_)
      obtain ⟨x12, e_x12⟩ : ∃ z : Int32, z = v4 + 1 := ⟨_, rfl⟩
      have hP := hP x12 e_x12
      refine lv_iinc (k := 4) (lv' := [(4, .int x12), (2, .int x11), (5, .int x8), (0, .ref (ha G 26)), (3, .int v3)]) hx hb d_S_breachWith_92 hl rfl (ii_p1 e_x12) (by decide) rfl (fun ls hl => ?_)
      refine lv_goto (tgt := 51) hx hb d_S_breachWith_95 rfl ?_
      exact ih _ _ _ _ _ _ _ hP (lv_sub hl [3, 1, 4, 0] rfl) hW
set_option maxHeartbeats 4000000 in
set_option maxRecDepth 100000 in
theorem wL_S_breachWith_43 {Q : Int32 → St → Prop} (E : En p l s m meth c args cc_S_breachWith 6 R_S (some .int) G) :
    ∀ (n : Nat) (v2 : Int32) (v3 : Int32) (z0 : St) (ls : Array Slot) (H : Heap) (locs : List Loc), L_S_breachWith_43 Q n v2 v3 z0 → lv_has ls 6 [(0, .ref (ha G 26)), (2, .int v2), (3, .int v3)] → Wd G z0 s.heap H locs → W p l e rm_S_breachWith s m args below meth c H locs 0 0 (MQ below (QiR Q G) args s 0 0 (fr G)) (F0 m 43 ls []) := by
  obtain ⟨hx, hb, hml, hown, hr, hlk, hex, hE⟩ := id E
  intro n
  induction n with
  | zero => exact fun _ _ _ _ _ _ hP _ _ => hP.elim
  | succ n ih =>
    intro v2 v3 z0 ls H locs hP hl hW
    refine lv_iload_n hx hb d_S_breachWith_43 rfl (lv_at hl 2 rfl) ?_
    refine lv_iconst (v := 3) hx hb d_S_breachWith_44 (by decide) ?_
    refine lv_icmp_ge (tgt := 104) hx hb d_S_breachWith_45 rfl (fun hc => ?_) (fun hc => ?_)
    · have hP := hP.1 hc
      refine lv_iload_n hx hb d_S_breachWith_104 rfl (lv_at hl 1 rfl) ?_
      exact yr_i hx hb hr hlk hW hP d_S_breachWith_105
    · have hP := hP.2 hc
      refine lv_iconst (v := 0) hx hb d_S_breachWith_48 (by decide) ?_
      refine lv_istore (lv' := [(4, .int (0 : Int32)), (0, .ref (ha G 26)), (2, .int v2), (3, .int v3)]) hx hb d_S_breachWith_49 hl (by decide) rfl (fun ls hl => ?_)
      obtain ⟨n2, hP⟩ := hP
      refine wL_S_breachWith_51 E ?_ n2 _ _ _ _ _ _ _ hP (lv_sub hl [1, 2, 3, 0] rfl) hW
      · intro x13 x14 z15 ls H locs hP hl hW
        obtain ⟨x16, e_x16⟩ : ∃ z : Int32, z = x14 + 1 := ⟨_, rfl⟩
        have hP := hP x16 e_x16
        refine lv_iinc (k := 2) (lv' := [(3, .int x16), (0, .ref (ha G 26)), (2, .int x13)]) hx hb d_S_breachWith_98 hl rfl (ii_p1 e_x16) (by decide) rfl (fun ls hl => ?_)
        refine lv_goto (tgt := 43) hx hb d_S_breachWith_101 rfl ?_
        exact ih _ _ _ _ _ _ hP (lv_sub hl [1, 2, 0] rfl) hW
set_option maxHeartbeats 4000000 in
set_option maxRecDepth 100000 in
theorem c_S_breachWith {l : Launch} {G : GG} (a1 : Int32) (z0 : St) (Q : Int32 → St → Prop) (hP : P_S_breachWith a1 z0 Q) : Cti l y_S_breachWith cc_S_breachWith 6 (some .int) rm_S_breachWith G [.ref (ha G 26), .int a1] z0 Q := by
  refine Cti.op (own := R_S) (by decide) rfl (Nat.le_of_ble_eq_true rfl) (fun p e s m args below meth c ls E hl hW => ?_)
  obtain ⟨hx, hb, hml, hown, hr, hlk, hex, hE⟩ := id E
  have hl : lv_has ls 6 [(0, .ref (ha G 26)), (1, .int a1)] := hl
  refine lv_aload_n hx hb d_S_breachWith_0 rfl (lv_at hl 0 rfl) ?_
  refine ygf_26_3 hx hb hown hE hW (lk_S_15 hE) d_S_breachWith_1 ?_
  refine lv_iconst (v := 0) hx hb d_S_breachWith_4 (by decide) ?_
  refine yc_v (yS (As := [.ref (ha G 28), .int (0 : Int32)]) (rest := []) E (c_A_fill3 _ _ _ hP) (cw_S_78 hE) (by decide) hW hl.1 rfl rfl rfl d_S_breachWith_5) hW (fun z1 H locs hP hW => ?_)
  refine lv_iconst (v := 0) hx hb d_S_breachWith_8 (by decide) ?_
  refine lv_istore_n (lv' := [(2, .int (0 : Int32)), (0, .ref (ha G 26)), (1, .int a1)]) hx hb d_S_breachWith_9 rfl hl (by decide) rfl (fun ls hl => ?_)
  obtain ⟨n2, hP⟩ := hP
  refine wL_S_breachWith_10 E ?_ n2 _ _ _ _ _ _ hP (lv_sub hl [1, 2, 0] rfl) hW
  · intro x4 z5 ls H locs hP hl hW
    refine lv_aload_n hx hb d_S_breachWith_34 rfl (lv_at hl 0 rfl) ?_
    refine lv_iload_n hx hb d_S_breachWith_35 rfl (lv_at hl 1 rfl) ?_
    refine yc_v (yV (As := [.int x4]) (rest := []) E (c_S_addValuesOf _ _ _ hP) (cw_S_84 hE) (yrv_26 hE hW) (by decide) hW hl.1 rfl rfl rfl d_S_breachWith_36) hW (fun z6 H locs hP hW => ?_)
    refine lv_iconst (v := 0) hx hb d_S_breachWith_39 (by decide) ?_
    refine lv_istore_n (lv' := [(2, .int (0 : Int32)), (0, .ref (ha G 26)), (1, .int x4)]) hx hb d_S_breachWith_40 rfl hl (by decide) rfl (fun ls hl => ?_)
    refine lv_iconst (v := 0) hx hb d_S_breachWith_41 (by decide) ?_
    refine lv_istore_n (lv' := [(3, .int (0 : Int32)), (2, .int (0 : Int32)), (0, .ref (ha G 26)), (1, .int x4)]) hx hb d_S_breachWith_42 rfl hl (by decide) rfl (fun ls hl => ?_)
    obtain ⟨n2, hP⟩ := hP
    refine wL_S_breachWith_43 E n2 _ _ _ _ _ _ hP (lv_sub hl [2, 1, 0] rfl) hW
theorem d_S_listCandidates_0 : decode cc_S_listCandidates 0 = .ok (.aload_n 0, 1) := by decide +kernel
theorem d_S_listCandidates_1 : decode cc_S_listCandidates 1 = .ok (.invokevirtual 70, 3) := by decide +kernel
theorem d_S_listCandidates_4 : decode cc_S_listCandidates 4 = .ok (.ifCond .ne 5, 3) := by decide +kernel
theorem d_S_listCandidates_7 : decode cc_S_listCandidates 7 = .ok (.iconst 0, 1) := by decide +kernel
theorem d_S_listCandidates_8 : decode cc_S_listCandidates 8 = .ok (.ireturn, 1) := by decide +kernel
theorem d_S_listCandidates_9 : decode cc_S_listCandidates 9 = .ok (.iconst 0, 1) := by decide +kernel
theorem d_S_listCandidates_10 : decode cc_S_listCandidates 10 = .ok (.istore_n 1, 1) := by decide +kernel
theorem d_S_listCandidates_11 : decode cc_S_listCandidates 11 = .ok (.iconst 0, 1) := by decide +kernel
theorem d_S_listCandidates_12 : decode cc_S_listCandidates 12 = .ok (.istore_n 2, 1) := by decide +kernel
theorem d_S_listCandidates_13 : decode cc_S_listCandidates 13 = .ok (.iconst 0, 1) := by decide +kernel
theorem d_S_listCandidates_14 : decode cc_S_listCandidates 14 = .ok (.istore_n 3, 1) := by decide +kernel
theorem d_S_listCandidates_15 : decode cc_S_listCandidates 15 = .ok (.iload_n 3, 1) := by decide +kernel
theorem d_S_listCandidates_16 : decode cc_S_listCandidates 16 = .ok (.aload_n 0, 1) := by decide +kernel
theorem d_S_listCandidates_17 : decode cc_S_listCandidates 17 = .ok (.getfield 35, 3) := by decide +kernel
theorem d_S_listCandidates_20 : decode cc_S_listCandidates 20 = .ok (.getfield 49, 3) := by decide +kernel
theorem d_S_listCandidates_23 : decode cc_S_listCandidates 23 = .ok (.if_icmp .ge 63, 3) := by decide +kernel
theorem d_S_listCandidates_26 : decode cc_S_listCandidates 26 = .ok (.aload_n 0, 1) := by decide +kernel
theorem d_S_listCandidates_27 : decode cc_S_listCandidates 27 = .ok (.getfield 25, 3) := by decide +kernel
theorem d_S_listCandidates_30 : decode cc_S_listCandidates 30 = .ok (.aload_n 0, 1) := by decide +kernel
theorem d_S_listCandidates_31 : decode cc_S_listCandidates 31 = .ok (.getfield 29, 3) := by decide +kernel
theorem d_S_listCandidates_34 : decode cc_S_listCandidates 34 = .ok (.lor, 1) := by decide +kernel
theorem d_S_listCandidates_35 : decode cc_S_listCandidates 35 = .ok (.iload_n 3, 1) := by decide +kernel
theorem d_S_listCandidates_36 : decode cc_S_listCandidates 36 = .ok (.invokestatic 54, 3) := by decide +kernel
theorem d_S_listCandidates_39 : decode cc_S_listCandidates 39 = .ok (.ifCond .ne 41, 3) := by decide +kernel
theorem d_S_listCandidates_42 : decode cc_S_listCandidates 42 = .ok (.aload_n 0, 1) := by decide +kernel
theorem d_S_listCandidates_43 : decode cc_S_listCandidates 43 = .ok (.iload_n 3, 1) := by decide +kernel
theorem d_S_listCandidates_44 : decode cc_S_listCandidates 44 = .ok (.invokevirtual 74, 3) := by decide +kernel
theorem d_S_listCandidates_47 : decode cc_S_listCandidates 47 = .ok (.istore 4, 2) := by decide +kernel
theorem d_S_listCandidates_49 : decode cc_S_listCandidates 49 = .ok (.iload_n 1, 1) := by decide +kernel
theorem d_S_listCandidates_50 : decode cc_S_listCandidates 50 = .ok (.ifCond .eq 9, 3) := by decide +kernel
theorem d_S_listCandidates_53 : decode cc_S_listCandidates 53 = .ok (.iload 4, 2) := by decide +kernel
theorem d_S_listCandidates_55 : decode cc_S_listCandidates 55 = .ok (.iload_n 2, 1) := by decide +kernel
theorem d_S_listCandidates_56 : decode cc_S_listCandidates 56 = .ok (.if_icmp .ge 8, 3) := by decide +kernel
theorem d_S_listCandidates_59 : decode cc_S_listCandidates 59 = .ok (.iload 4, 2) := by decide +kernel
theorem d_S_listCandidates_61 : decode cc_S_listCandidates 61 = .ok (.istore_n 2, 1) := by decide +kernel
theorem d_S_listCandidates_62 : decode cc_S_listCandidates 62 = .ok (.iconst 0, 1) := by decide +kernel
theorem d_S_listCandidates_63 : decode cc_S_listCandidates 63 = .ok (.istore_n 1, 1) := by decide +kernel
theorem d_S_listCandidates_64 : decode cc_S_listCandidates 64 = .ok (.iload 4, 2) := by decide +kernel
theorem d_S_listCandidates_66 : decode cc_S_listCandidates 66 = .ok (.iload_n 2, 1) := by decide +kernel
theorem d_S_listCandidates_67 : decode cc_S_listCandidates 67 = .ok (.if_icmp .ne 13, 3) := by decide +kernel
theorem d_S_listCandidates_70 : decode cc_S_listCandidates 70 = .ok (.aload_n 0, 1) := by decide +kernel
theorem d_S_listCandidates_71 : decode cc_S_listCandidates 71 = .ok (.getfield 18, 3) := by decide +kernel
theorem d_S_listCandidates_74 : decode cc_S_listCandidates 74 = .ok (.iload_n 1, 1) := by decide +kernel
theorem d_S_listCandidates_75 : decode cc_S_listCandidates 75 = .ok (.iload_n 3, 1) := by decide +kernel
theorem d_S_listCandidates_76 : decode cc_S_listCandidates 76 = .ok (.iastore, 1) := by decide +kernel
theorem d_S_listCandidates_77 : decode cc_S_listCandidates 77 = .ok (.iinc 1 1, 3) := by decide +kernel
theorem d_S_listCandidates_80 : decode cc_S_listCandidates 80 = .ok (.iinc 3 1, 3) := by decide +kernel
theorem d_S_listCandidates_83 : decode cc_S_listCandidates 83 = .ok (.goto (-68), 3) := by decide +kernel
theorem d_S_listCandidates_86 : decode cc_S_listCandidates 86 = .ok (.iload_n 1, 1) := by decide +kernel
theorem d_S_listCandidates_87 : decode cc_S_listCandidates 87 = .ok (.ireturn, 1) := by decide +kernel
def J_S_listCandidates_64 (K15 : Int32 → Int32 → Int32 → St → Prop) (Q : Int32 → St → Prop) (v1 : Int32) (v2 : Int32) (v3 : Int32) (v4 : Int32) (z0 : St) : Prop := ((¬ v4 = v2) → ∀ x8 : Int32, x8 = v3 + 1 → K15 v1 v2 x8 z0) ∧ ((v4 = v2) → vp_in v1 40 ∧ ∀ z9 : St, z9 = wI z0 29 v1.toNatClampNeg v3 → ∀ x10 : Int32, x10 = v1 + 1 → ∀ x11 : Int32, x11 = v3 + 1 → K15 x10 v2 x11 z9)
def L_S_listCandidates_15 (Q : Int32 → St → Prop) : Nat → Int32 → Int32 → Int32 → St → Prop
  | 0, _, _, _, _ => False
  | n + 1, v1, v2, v3, z0 => (((z0.1 1 4) ≤ v3) → Q v1 z0) ∧ ((¬ (z0.1 1 4) ≤ v3) → P_O_isIn ((z0.2 26 6) ||| (z0.2 26 7)) v3 z0 (fun (x4 : Int32) (z3 : St) => ((¬ x4 = 0) → ∀ x5 : Int32, x5 = v3 + 1 → L_S_listCandidates_15 Q n v1 v2 x5 z3) ∧ ((x4 = 0) → P_S_breachWith v3 z3 (fun (x7 : Int32) (z6 : St) => ((v1 = 0) → J_S_listCandidates_64 (L_S_listCandidates_15 Q n) Q (0 : Int32) x7 v3 x7 z6) ∧ ((¬ v1 = 0) → ((v2 ≤ x7) → J_S_listCandidates_64 (L_S_listCandidates_15 Q n) Q v1 v2 v3 x7 z6) ∧ ((¬ v2 ≤ x7) → J_S_listCandidates_64 (L_S_listCandidates_15 Q n) Q (0 : Int32) x7 v3 x7 z6))))))
def P_S_listCandidates (z0 : St) (Q : Int32 → St → Prop) : Prop := P_S_hasEmptyPlace z0 (fun (x2 : Int32) (z1 : St) => ((¬ x2 = 0) → ∃ k15 : Nat, L_S_listCandidates_15 Q k15 (0 : Int32) (0 : Int32) (0 : Int32) z1) ∧ ((x2 = 0) → Q (0 : Int32) z1))
set_option maxHeartbeats 4000000 in
set_option maxRecDepth 100000 in
theorem wJ_S_listCandidates_64 {K15 : Int32 → Int32 → Int32 → St → Prop} {Q : Int32 → St → Prop} (E : En p l s m meth c args cc_S_listCandidates 5 R_S (some .int) G)
    (hK15 : ∀ (v1 : Int32) (v2 : Int32) (v3 : Int32) (z0 : St) (ls : Array Slot) (H : Heap) (locs : List Loc), K15 v1 v2 v3 z0 → lv_has ls 5 [(0, .ref (ha G 26)), (1, .int v1), (2, .int v2), (3, .int v3)] → Wd G z0 s.heap H locs → W p l e rm_S_listCandidates s m args below meth c H locs 0 0 (MQ below (QiR Q G) args s 0 0 (fr G)) (F0 m 15 ls []))
    (v1 : Int32) (v2 : Int32) (v3 : Int32) (v4 : Int32) (z0 : St) (ls : Array Slot) (H : Heap) (locs : List Loc) (hP : J_S_listCandidates_64 K15 Q v1 v2 v3 v4 z0) (hl : lv_has ls 5 [(0, .ref (ha G 26)), (1, .int v1), (2, .int v2), (3, .int v3), (4, .int v4)]) (hW : Wd G z0 s.heap H locs) : W p l e rm_S_listCandidates s m args below meth c H locs 0 0 (MQ below (QiR Q G) args s 0 0 (fr G)) (F0 m 64 ls []) := by
  obtain ⟨hx, hb, hml, hown, hr, hlk, hex, hE⟩ := id E
  refine lv_iload hx hb d_S_listCandidates_64 (lv_at hl 4 rfl) ?_
  refine lv_iload_n hx hb d_S_listCandidates_66 rfl (lv_at hl 2 rfl) ?_
  refine lv_icmp_ne (tgt := 80) hx hb d_S_listCandidates_67 rfl (fun hc => ?_) (fun hc => ?_)
  · have hP := hP.1 hc
    obtain ⟨x8, e_x8⟩ : ∃ z : Int32, z = v3 + 1 := ⟨_, rfl⟩
    have hP := hP x8 e_x8
    refine lv_iinc (k := 3) (lv' := [(3, .int x8), (0, .ref (ha G 26)), (1, .int v1), (2, .int v2), (4, .int v4)]) hx hb d_S_listCandidates_80 hl rfl (ii_p1 e_x8) (by decide) rfl (fun ls hl => ?_)
    refine lv_goto (tgt := 15) hx hb d_S_listCandidates_83 rfl ?_
    exact hK15 _ _ _ _ _ _ _ hP (lv_sub hl [1, 2, 3, 0] rfl) hW
  · have hP := hP.2 hc
    refine lv_aload_n hx hb d_S_listCandidates_70 rfl (lv_at hl 0 rfl) ?_
    refine ygf_26_4 hx hb hown hE hW (lk_S_18 hE) d_S_listCandidates_71 ?_
    refine lv_iload_n hx hb d_S_listCandidates_74 rfl (lv_at hl 1 rfl) ?_
    refine lv_iload_n hx hb d_S_listCandidates_75 rfl (lv_at hl 3 rfl) ?_
    refine ys_29 hx hb hE hW hP.1 d_S_listCandidates_76 (fun z9 H locs e_z9 hW => ?_)
    have hP := hP.2
    have hP := hP z9 e_z9
    obtain ⟨x10, e_x10⟩ : ∃ z : Int32, z = v1 + 1 := ⟨_, rfl⟩
    have hP := hP x10 e_x10
    refine lv_iinc (k := 1) (lv' := [(1, .int x10), (0, .ref (ha G 26)), (2, .int v2), (3, .int v3), (4, .int v4)]) hx hb d_S_listCandidates_77 hl rfl (ii_p1 e_x10) (by decide) rfl (fun ls hl => ?_)
    obtain ⟨x11, e_x11⟩ : ∃ z : Int32, z = v3 + 1 := ⟨_, rfl⟩
    have hP := hP x11 e_x11
    refine lv_iinc (k := 3) (lv' := [(3, .int x11), (1, .int x10), (0, .ref (ha G 26)), (2, .int v2), (4, .int v4)]) hx hb d_S_listCandidates_80 hl rfl (ii_p1 e_x11) (by decide) rfl (fun ls hl => ?_)
    refine lv_goto (tgt := 15) hx hb d_S_listCandidates_83 rfl ?_
    exact hK15 _ _ _ _ _ _ _ hP (lv_sub hl [2, 1, 3, 0] rfl) hW
set_option maxHeartbeats 4000000 in
set_option maxRecDepth 100000 in
theorem wL_S_listCandidates_15 {Q : Int32 → St → Prop} (E : En p l s m meth c args cc_S_listCandidates 5 R_S (some .int) G) :
    ∀ (n : Nat) (v1 : Int32) (v2 : Int32) (v3 : Int32) (z0 : St) (ls : Array Slot) (H : Heap) (locs : List Loc), L_S_listCandidates_15 Q n v1 v2 v3 z0 → lv_has ls 5 [(0, .ref (ha G 26)), (1, .int v1), (2, .int v2), (3, .int v3)] → Wd G z0 s.heap H locs → W p l e rm_S_listCandidates s m args below meth c H locs 0 0 (MQ below (QiR Q G) args s 0 0 (fr G)) (F0 m 15 ls []) := by
  obtain ⟨hx, hb, hml, hown, hr, hlk, hex, hE⟩ := id E
  intro n
  induction n with
  | zero => exact fun _ _ _ _ _ _ _ hP _ _ => hP.elim
  | succ n ih =>
    intro v1 v2 v3 z0 ls H locs hP hl hW
    refine lv_iload_n hx hb d_S_listCandidates_15 rfl (lv_at hl 3 rfl) ?_
    refine lv_aload_n hx hb d_S_listCandidates_16 rfl (lv_at hl 0 rfl) ?_
    refine ygf_26_0 hx hb hown hE hW (lk_S_35 hE) d_S_listCandidates_17 ?_
    refine ygn_1_4 hx hb hown hE hW (lk_S_49 hE) d_S_listCandidates_20 ?_
    refine lv_icmp_ge (tgt := 86) hx hb d_S_listCandidates_23 rfl (fun hc => ?_) (fun hc => ?_)
    · have hP := hP.1 hc
      refine lv_iload_n hx hb d_S_listCandidates_86 rfl (lv_at hl 1 rfl) ?_
      exact yr_i hx hb hr hlk hW hP d_S_listCandidates_87
    · have hP := hP.2 hc
      refine lv_aload_n hx hb d_S_listCandidates_26 rfl (lv_at hl 0 rfl) ?_
      refine ygf_26_6 hx hb hown hE hW (lk_S_25 hE) d_S_listCandidates_27 ?_
      refine lv_aload_n hx hb d_S_listCandidates_30 rfl (lv_at hl 0 rfl) ?_
      refine ygf_26_7 hx hb hown hE hW (lk_S_29 hE) d_S_listCandidates_31 ?_
      refine lv_lor hx hb d_S_listCandidates_34 ?_
      refine lv_iload_n hx hb d_S_listCandidates_35 rfl (lv_at hl 3 rfl) ?_
      refine yc_i (ySN (As := [.long ((z0.2 26 6) ||| (z0.2 26 7)), .int v3]) (rest := []) E (c_O_isIn _ _ _ _ hP) (cw_S_54 hE) (by decide) hW hl.1 rfl rfl rfl d_S_listCandidates_36) hW (fun x4 z3 H locs hP hW => ?_)
      refine lv_if_ne (tgt := 80) hx hb d_S_listCandidates_39 rfl (fun hc => ?_) (fun hc => ?_)
      · have hP := hP.1 hc
        obtain ⟨x5, e_x5⟩ : ∃ z : Int32, z = v3 + 1 := ⟨_, rfl⟩
        have hP := hP x5 e_x5
        refine lv_iinc (k := 3) (lv' := [(3, .int x5), (0, .ref (ha G 26)), (1, .int v1), (2, .int v2)]) hx hb d_S_listCandidates_80 hl rfl (ii_p1 e_x5) (by decide) rfl (fun ls hl => ?_)
        refine lv_goto (tgt := 15) hx hb d_S_listCandidates_83 rfl ?_
        exact ih _ _ _ _ _ _ _ hP (lv_sub hl [1, 2, 3, 0] rfl) hW
      · have hP := hP.2 hc
        refine lv_aload_n hx hb d_S_listCandidates_42 rfl (lv_at hl 0 rfl) ?_
        refine lv_iload_n hx hb d_S_listCandidates_43 rfl (lv_at hl 3 rfl) ?_
        refine yc_i (yV (As := [.int v3]) (rest := []) E (c_S_breachWith _ _ _ hP) (cw_S_74 hE) (yrv_26 hE hW) (by decide) hW hl.1 rfl rfl rfl d_S_listCandidates_44) hW (fun x7 z6 H locs hP hW => ?_)
        refine lv_istore (lv' := [(4, .int x7), (0, .ref (ha G 26)), (1, .int v1), (2, .int v2), (3, .int v3)]) hx hb d_S_listCandidates_47 hl (by decide) rfl (fun ls hl => ?_)
        refine lv_iload_n hx hb d_S_listCandidates_49 rfl (lv_at hl 2 rfl) ?_
        refine lv_if_eq (tgt := 59) hx hb d_S_listCandidates_50 rfl (fun hc => ?_) (fun hc => ?_)
        · have hP := hP.1 hc
          refine lv_iload hx hb d_S_listCandidates_59 (lv_at hl 0 rfl) ?_
          refine lv_istore_n (lv' := [(2, .int x7), (4, .int x7), (0, .ref (ha G 26)), (1, .int v1), (3, .int v3)]) hx hb d_S_listCandidates_61 rfl hl (by decide) rfl (fun ls hl => ?_)
          refine lv_iconst (v := 0) hx hb d_S_listCandidates_62 (by decide) ?_
          refine lv_istore_n (lv' := [(1, .int (0 : Int32)), (2, .int x7), (4, .int x7), (0, .ref (ha G 26)), (3, .int v3)]) hx hb d_S_listCandidates_63 rfl hl (by decide) rfl (fun ls hl => ?_)
          exact wJ_S_listCandidates_64 E ih _ _ _ _ _ _ _ _ hP (lv_sub hl [3, 0, 1, 4, 2] rfl) hW
        · have hP := hP.2 hc
          refine lv_iload hx hb d_S_listCandidates_53 (lv_at hl 0 rfl) ?_
          refine lv_iload_n hx hb d_S_listCandidates_55 rfl (lv_at hl 3 rfl) ?_
          refine lv_icmp_ge (tgt := 64) hx hb d_S_listCandidates_56 rfl (fun hc => ?_) (fun hc => ?_)
          · have hP := hP.1 hc
            exact wJ_S_listCandidates_64 E ih _ _ _ _ _ _ _ _ hP (lv_sub hl [1, 2, 3, 4, 0] rfl) hW
          · have hP := hP.2 hc
            refine lv_iload hx hb d_S_listCandidates_59 (lv_at hl 0 rfl) ?_
            refine lv_istore_n (lv' := [(2, .int x7), (4, .int x7), (0, .ref (ha G 26)), (1, .int v1), (3, .int v3)]) hx hb d_S_listCandidates_61 rfl hl (by decide) rfl (fun ls hl => ?_)
            refine lv_iconst (v := 0) hx hb d_S_listCandidates_62 (by decide) ?_
            refine lv_istore_n (lv' := [(1, .int (0 : Int32)), (2, .int x7), (4, .int x7), (0, .ref (ha G 26)), (3, .int v3)]) hx hb d_S_listCandidates_63 rfl hl (by decide) rfl (fun ls hl => ?_)
            exact wJ_S_listCandidates_64 E ih _ _ _ _ _ _ _ _ hP (lv_sub hl [3, 0, 1, 4, 2] rfl) hW
set_option maxHeartbeats 4000000 in
set_option maxRecDepth 100000 in
theorem c_S_listCandidates {l : Launch} {G : GG} (z0 : St) (Q : Int32 → St → Prop) (hP : P_S_listCandidates z0 Q) : Cti l y_S_listCandidates cc_S_listCandidates 5 (some .int) rm_S_listCandidates G [.ref (ha G 26)] z0 Q := by
  refine Cti.op (own := R_S) (by decide) rfl (Nat.le_of_ble_eq_true rfl) (fun p e s m args below meth c ls E hl hW => ?_)
  obtain ⟨hx, hb, hml, hown, hr, hlk, hex, hE⟩ := id E
  have hl : lv_has ls 5 [(0, .ref (ha G 26))] := hl
  refine lv_aload_n hx hb d_S_listCandidates_0 rfl (lv_at hl 0 rfl) ?_
  refine yc_i (yV (As := []) (rest := []) E (c_S_hasEmptyPlace _ _ hP) (cw_S_70 hE) (yrv_26 hE hW) (by decide) hW hl.1 rfl rfl rfl d_S_listCandidates_1) hW (fun x2 z1 H locs hP hW => ?_)
  refine lv_if_ne (tgt := 9) hx hb d_S_listCandidates_4 rfl (fun hc => ?_) (fun hc => ?_)
  · have hP := hP.1 hc
    refine lv_iconst (v := 0) hx hb d_S_listCandidates_9 (by decide) ?_
    refine lv_istore_n (lv' := [(1, .int (0 : Int32)), (0, .ref (ha G 26))]) hx hb d_S_listCandidates_10 rfl hl (by decide) rfl (fun ls hl => ?_)
    refine lv_iconst (v := 0) hx hb d_S_listCandidates_11 (by decide) ?_
    refine lv_istore_n (lv' := [(2, .int (0 : Int32)), (1, .int (0 : Int32)), (0, .ref (ha G 26))]) hx hb d_S_listCandidates_12 rfl hl (by decide) rfl (fun ls hl => ?_)
    refine lv_iconst (v := 0) hx hb d_S_listCandidates_13 (by decide) ?_
    refine lv_istore_n (lv' := [(3, .int (0 : Int32)), (2, .int (0 : Int32)), (1, .int (0 : Int32)), (0, .ref (ha G 26))]) hx hb d_S_listCandidates_14 rfl hl (by decide) rfl (fun ls hl => ?_)
    obtain ⟨n2, hP⟩ := hP
    refine wL_S_listCandidates_15 E n2 _ _ _ _ _ _ _ hP (lv_sub hl [3, 2, 1, 0] rfl) hW
  · have hP := hP.2 hc
    refine lv_iconst (v := 0) hx hb d_S_listCandidates_7 (by decide) ?_
    exact yr_i hx hb hr hlk hW hP d_S_listCandidates_8
theorem d_O_goalNow_0 : decode cc_O_goalNow 0 = .ok (.aload_n 0, 1) := by decide +kernel
theorem d_O_goalNow_1 : decode cc_O_goalNow 1 = .ok (.getfield 60, 3) := by decide +kernel
theorem d_O_goalNow_4 : decode cc_O_goalNow 4 = .ok (.invokevirtual 291, 3) := by decide +kernel
theorem d_O_goalNow_7 : decode cc_O_goalNow 7 = .ok (.ifCond .eq 14, 3) := by decide +kernel
theorem d_O_goalNow_10 : decode cc_O_goalNow 10 = .ok (.aload_n 0, 1) := by decide +kernel
theorem d_O_goalNow_11 : decode cc_O_goalNow 11 = .ok (.getfield 60, 3) := by decide +kernel
theorem d_O_goalNow_14 : decode cc_O_goalNow 14 = .ok (.invokevirtual 268, 3) := by decide +kernel
theorem d_O_goalNow_17 : decode cc_O_goalNow 17 = .ok (.i2l, 1) := by decide +kernel
theorem d_O_goalNow_18 : decode cc_O_goalNow 18 = .ok (.goto 10, 3) := by decide +kernel
theorem d_O_goalNow_21 : decode cc_O_goalNow 21 = .ok (.aload_n 0, 1) := by decide +kernel
theorem d_O_goalNow_22 : decode cc_O_goalNow 22 = .ok (.getfield 28, 3) := by decide +kernel
theorem d_O_goalNow_25 : decode cc_O_goalNow 25 = .ok (.invokevirtual 140, 3) := by decide +kernel
theorem d_O_goalNow_28 : decode cc_O_goalNow 28 = .ok (.lreturn, 1) := by decide +kernel
def P_O_goalNow (z0 : St) (Q : Int64 → St → Prop) : Prop := P_S_areDrawn z0 (fun (x2 : Int32) (z1 : St) => ((x2 = 0) → P_T_panels z1 (fun (x4 : Int64) (z3 : St) => Q x4 z3)) ∧ ((¬ x2 = 0) → P_S_listCandidates z1 (fun (x6 : Int32) (z5 : St) => Q x6.toInt64 z5)))
set_option maxHeartbeats 4000000 in
set_option maxRecDepth 100000 in
theorem c_O_goalNow {l : Launch} {G : GG} (z0 : St) (Q : Int64 → St → Prop) (hP : P_O_goalNow z0 Q) : Ctl l y_O_goalNow cc_O_goalNow 1 (some .long) rm_O_goalNow G [.ref (ha G 0)] z0 Q := by
  refine Ctl.op (own := R_O) (by decide) rfl (Nat.le_of_ble_eq_true rfl) (fun p e s m args below meth c ls E hl hW => ?_)
  obtain ⟨hx, hb, hml, hown, hr, hlk, hex, hE⟩ := id E
  have hl : lv_has ls 1 [(0, .ref (ha G 0))] := hl
  refine lv_aload_n hx hb d_O_goalNow_0 rfl (lv_at hl 0 rfl) ?_
  refine ygf_0_6 hx hb hown hE hW (lk_O_60 hE) d_O_goalNow_1 ?_
  refine yc_i (yV (As := []) (rest := []) E (c_S_areDrawn _ _ hP) (cw_O_291 hE) (yrv_26 hE hW) (by decide) hW hl.1 rfl rfl rfl d_O_goalNow_4) hW (fun x2 z1 H locs hP hW => ?_)
  refine lv_if_eq (tgt := 21) hx hb d_O_goalNow_7 rfl (fun hc => ?_) (fun hc => ?_)
  · have hP := hP.1 hc
    refine lv_aload_n hx hb d_O_goalNow_21 rfl (lv_at hl 0 rfl) ?_
    refine ygf_0_2 hx hb hown hE hW (lk_O_28 hE) d_O_goalNow_22 ?_
    refine yc_l (yV (As := []) (rest := []) E (c_T_panels _ _ hP) (cw_O_140 hE) (yrv_9 hE hW) (by decide) hW hl.1 rfl rfl rfl d_O_goalNow_25) hW (fun x4 z3 H locs hP hW => ?_)
    exact yr_l hx hb hr hlk hW hP d_O_goalNow_28
  · have hP := hP.2 hc
    refine lv_aload_n hx hb d_O_goalNow_10 rfl (lv_at hl 0 rfl) ?_
    refine ygf_0_6 hx hb hown hE hW (lk_O_60 hE) d_O_goalNow_11 ?_
    refine yc_i (yV (As := []) (rest := []) E (c_S_listCandidates _ _ hP) (cw_O_268 hE) (yrv_26 hE hW) (by decide) hW hl.1 rfl rfl rfl d_O_goalNow_14) hW (fun x6 z5 H locs hP hW => ?_)
    refine lv_i2l hx hb d_O_goalNow_17 rfl ?_
    refine lv_goto (tgt := 28) hx hb d_O_goalNow_18 rfl ?_
    exact yr_l hx hb hr hlk hW hP d_O_goalNow_28
theorem d_D_begin_0 : decode cc_D_begin 0 = .ok (.aload_n 0, 1) := by decide +kernel
theorem d_D_begin_1 : decode cc_D_begin 1 = .ok (.iload_n 1, 1) := by decide +kernel
theorem d_D_begin_2 : decode cc_D_begin 2 = .ok (.putfield 18, 3) := by decide +kernel
theorem d_D_begin_5 : decode cc_D_begin 5 = .ok (.aload_n 0, 1) := by decide +kernel
theorem d_D_begin_6 : decode cc_D_begin 6 = .ok (.lconst 1, 1) := by decide +kernel
theorem d_D_begin_7 : decode cc_D_begin 7 = .ok (.lload_n 2, 1) := by decide +kernel
theorem d_D_begin_8 : decode cc_D_begin 8 = .ok (.invokestatic 38, 3) := by decide +kernel
theorem d_D_begin_11 : decode cc_D_begin 11 = .ok (.putfield 22, 3) := by decide +kernel
theorem d_D_begin_14 : decode cc_D_begin 14 = .ok (.aload_n 0, 1) := by decide +kernel
theorem d_D_begin_15 : decode cc_D_begin 15 = .ok (.lconst 1, 1) := by decide +kernel
theorem d_D_begin_16 : decode cc_D_begin 16 = .ok (.putfield 26, 3) := by decide +kernel
theorem d_D_begin_19 : decode cc_D_begin 19 = .ok (.aload_n 0, 1) := by decide +kernel
theorem d_D_begin_20 : decode cc_D_begin 20 = .ok (.iconst 0, 1) := by decide +kernel
theorem d_D_begin_21 : decode cc_D_begin 21 = .ok (.putfield 29, 3) := by decide +kernel
theorem d_D_begin_24 : decode cc_D_begin 24 = .ok (.aload_n 0, 1) := by decide +kernel
theorem d_D_begin_25 : decode cc_D_begin 25 = .ok (.getfield 26, 3) := by decide +kernel
theorem d_D_begin_28 : decode cc_D_begin 28 = .ok (.aload_n 0, 1) := by decide +kernel
theorem d_D_begin_29 : decode cc_D_begin 29 = .ok (.getfield 22, 3) := by decide +kernel
theorem d_D_begin_32 : decode cc_D_begin 32 = .ok (.lcmp, 1) := by decide +kernel
theorem d_D_begin_33 : decode cc_D_begin 33 = .ok (.ifCond .ge 39, 3) := by decide +kernel
theorem d_D_begin_36 : decode cc_D_begin 36 = .ok (.aload_n 0, 1) := by decide +kernel
theorem d_D_begin_37 : decode cc_D_begin 37 = .ok (.getfield 29, 3) := by decide +kernel
theorem d_D_begin_40 : decode cc_D_begin 40 = .ok (.bipush 27, 2) := by decide +kernel
theorem d_D_begin_42 : decode cc_D_begin 42 = .ok (.if_icmp .ge 30, 3) := by decide +kernel
theorem d_D_begin_45 : decode cc_D_begin 45 = .ok (.aload_n 0, 1) := by decide +kernel
theorem d_D_begin_46 : decode cc_D_begin 46 = .ok (.dup, 1) := by decide +kernel
theorem d_D_begin_47 : decode cc_D_begin 47 = .ok (.getfield 26, 3) := by decide +kernel
theorem d_D_begin_50 : decode cc_D_begin 50 = .ok (.aload_n 0, 1) := by decide +kernel
theorem d_D_begin_51 : decode cc_D_begin 51 = .ok (.getfield 18, 3) := by decide +kernel
theorem d_D_begin_54 : decode cc_D_begin 54 = .ok (.i2l, 1) := by decide +kernel
theorem d_D_begin_55 : decode cc_D_begin 55 = .ok (.lmul, 1) := by decide +kernel
theorem d_D_begin_56 : decode cc_D_begin 56 = .ok (.putfield 26, 3) := by decide +kernel
theorem d_D_begin_59 : decode cc_D_begin 59 = .ok (.aload_n 0, 1) := by decide +kernel
theorem d_D_begin_60 : decode cc_D_begin 60 = .ok (.dup, 1) := by decide +kernel
theorem d_D_begin_61 : decode cc_D_begin 61 = .ok (.getfield 29, 3) := by decide +kernel
theorem d_D_begin_64 : decode cc_D_begin 64 = .ok (.iconst 1, 1) := by decide +kernel
theorem d_D_begin_65 : decode cc_D_begin 65 = .ok (.iadd, 1) := by decide +kernel
theorem d_D_begin_66 : decode cc_D_begin 66 = .ok (.putfield 29, 3) := by decide +kernel
theorem d_D_begin_69 : decode cc_D_begin 69 = .ok (.goto (-45), 3) := by decide +kernel
theorem d_D_begin_72 : decode cc_D_begin 72 = .ok (.aload_n 0, 1) := by decide +kernel
theorem d_D_begin_73 : decode cc_D_begin 73 = .ok (.iconst 0, 1) := by decide +kernel
theorem d_D_begin_74 : decode cc_D_begin 74 = .ok (.putfield 32, 3) := by decide +kernel
theorem d_D_begin_77 : decode cc_D_begin 77 = .ok (.aload_n 0, 1) := by decide +kernel
theorem d_D_begin_78 : decode cc_D_begin 78 = .ok (.lconst 0, 1) := by decide +kernel
theorem d_D_begin_79 : decode cc_D_begin 79 = .ok (.putfield 35, 3) := by decide +kernel
theorem d_D_begin_82 : decode cc_D_begin 82 = .ok (.aload_n 0, 1) := by decide +kernel
theorem d_D_begin_83 : decode cc_D_begin 83 = .ok (.iconst 1, 1) := by decide +kernel
theorem d_D_begin_84 : decode cc_D_begin 84 = .ok (.putfield 9, 3) := by decide +kernel
theorem d_D_begin_87 : decode cc_D_begin 87 = .ok (.aload_n 0, 1) := by decide +kernel
theorem d_D_begin_88 : decode cc_D_begin 88 = .ok (.aload_n 0, 1) := by decide +kernel
theorem d_D_begin_89 : decode cc_D_begin 89 = .ok (.getfield 29, 3) := by decide +kernel
theorem d_D_begin_92 : decode cc_D_begin 92 = .ok (.ifCond .ne 7, 3) := by decide +kernel
theorem d_D_begin_95 : decode cc_D_begin 95 = .ok (.iconst 1, 1) := by decide +kernel
theorem d_D_begin_96 : decode cc_D_begin 96 = .ok (.goto 4, 3) := by decide +kernel
theorem d_D_begin_99 : decode cc_D_begin 99 = .ok (.iconst 0, 1) := by decide +kernel
theorem d_D_begin_100 : decode cc_D_begin 100 = .ok (.putfield 15, 3) := by decide +kernel
theorem d_D_begin_103 : decode cc_D_begin 103 = .ok (.aload_n 0, 1) := by decide +kernel
theorem d_D_begin_104 : decode cc_D_begin 104 = .ok (.getfield 29, 3) := by decide +kernel
theorem d_D_begin_107 : decode cc_D_begin 107 = .ok (.ireturn, 1) := by decide +kernel
def L_D_begin_24 (K72 : St → Prop) (Q : Int32 → St → Prop) : Nat → St → Prop
  | 0, _ => False
  | n + 1, z0 => (((z0.2 25 3) ≤ (z0.2 25 4)) → K72 z0) ∧ ((¬ (z0.2 25 3) ≤ (z0.2 25 4)) → (((27 : Int32) ≤ (z0.1 25 5)) → K72 z0) ∧ ((¬ (27 : Int32) ≤ (z0.1 25 5)) → ∀ z5 : St, z5 = wL z0 25 4 ((z0.2 25 4) * ((z0.1 25 2).toInt64)) → ∀ z6 : St, z6 = wI z5 25 5 ((z5.1 25 5) + (1 : Int32)) → L_D_begin_24 K72 Q n z6))
def J_D_begin_72 (Q : Int32 → St → Prop) (z0 : St) : Prop := ∀ z8 : St, z8 = wI z0 25 6 (0 : Int32) → ∀ z9 : St, z9 = wL z8 25 7 (0 : Int64) → ∀ z10 : St, z10 = wI z9 25 0 (1 : Int32) → ((¬ (z10.1 25 5) = 0) → ∀ z11 : St, z11 = wI z10 25 1 (0 : Int32) → Q (z11.1 25 5) z11) ∧ (((z10.1 25 5) = 0) → ∀ z12 : St, z12 = wI z10 25 1 (1 : Int32) → Q (z12.1 25 5) z12)
def P_D_begin (a1 : Int32) (a2 : Int64) (z0 : St) (Q : Int32 → St → Prop) : Prop := ∀ z1 : St, z1 = wI z0 25 2 a1 → ∀ z2 : St, z2 = wL z1 25 3 (mmaxL (1 : Int64) a2) → ∀ z3 : St, z3 = wL z2 25 4 (1 : Int64) → ∀ z4 : St, z4 = wI z3 25 5 (0 : Int32) → ∃ k24 : Nat, L_D_begin_24 (fun (z7 : St) => J_D_begin_72 Q z7) Q k24 z4
set_option maxHeartbeats 4000000 in
set_option maxRecDepth 100000 in
theorem wL_D_begin_24 {K72 : St → Prop} {Q : Int32 → St → Prop} (E : En p l s m meth c args cc_D_begin 4 R_D (some .int) G)
    (hK72 : ∀ (z0 : St) (ls : Array Slot) (H : Heap) (locs : List Loc), K72 z0 → lv_has ls 4 [(0, .ref (ha G 25))] → Wd G z0 s.heap H locs → W p l e rm_D_begin s m args below meth c H locs 0 0 (MQ below (QiR Q G) args s 0 0 (fr G)) (F0 m 72 ls [])) :
    ∀ (n : Nat) (z0 : St) (ls : Array Slot) (H : Heap) (locs : List Loc), L_D_begin_24 K72 Q n z0 → lv_has ls 4 [(0, .ref (ha G 25))] → Wd G z0 s.heap H locs → W p l e rm_D_begin s m args below meth c H locs 0 0 (MQ below (QiR Q G) args s 0 0 (fr G)) (F0 m 24 ls []) := by
  obtain ⟨hx, hb, hml, hown, hr, hlk, hex, hE⟩ := id E
  intro n
  induction n with
  | zero => exact fun _ _ _ _ hP _ _ => hP.elim
  | succ n ih =>
    intro z0 ls H locs hP hl hW
    refine lv_aload_n hx hb d_D_begin_24 rfl (lv_at hl 0 rfl) ?_
    refine ygf_25_4 hx hb hown hE hW (lk_D_26 hE) d_D_begin_25 ?_
    refine lv_aload_n hx hb d_D_begin_28 rfl (lv_at hl 0 rfl) ?_
    refine ygf_25_3 hx hb hown hE hW (lk_D_22 hE) d_D_begin_29 ?_
    refine W.lcmp hx hb d_D_begin_32 ?_
    refine lv_if_ge (tgt := 72) hx hb d_D_begin_33 rfl (fun hc => ?_) (fun hc => ?_)
    · have hP := hP.1 (lgc_get hc)
      exact hK72 _ _ _ _ hP hl hW
    · have hP := hP.2 (lgc_gef hc)
      refine lv_aload_n hx hb d_D_begin_36 rfl (lv_at hl 0 rfl) ?_
      refine ygf_25_5 hx hb hown hE hW (lk_D_29 hE) d_D_begin_37 ?_
      refine lv_bipush (v := 27) hx hb d_D_begin_40 (by decide) ?_
      refine lv_icmp_ge (tgt := 72) hx hb d_D_begin_42 rfl (fun hc => ?_) (fun hc => ?_)
      · have hP := hP.1 hc
        exact hK72 _ _ _ _ hP hl hW
      · have hP := hP.2 hc
        refine lv_aload_n hx hb d_D_begin_45 rfl (lv_at hl 0 rfl) ?_
        refine lv_dup hx hb d_D_begin_46 rfl ?_
        refine ygf_25_4 hx hb hown hE hW (lk_D_26 hE) d_D_begin_47 ?_
        refine lv_aload_n hx hb d_D_begin_50 rfl (lv_at hl 0 rfl) ?_
        refine ygf_25_2 hx hb hown hE hW (lk_D_18 hE) d_D_begin_51 ?_
        refine lv_i2l hx hb d_D_begin_54 rfl ?_
        refine lv_lmul hx hb d_D_begin_55 ?_
        refine ypf_25_4 hx hb hown hE hW (lk_D_26 hE) d_D_begin_56 (fun z5 H locs e_z5 hW => ?_)
        have hP := hP z5 e_z5
        refine lv_aload_n hx hb d_D_begin_59 rfl (lv_at hl 0 rfl) ?_
        refine lv_dup hx hb d_D_begin_60 rfl ?_
        refine ygf_25_5 hx hb hown hE hW (lk_D_29 hE) d_D_begin_61 ?_
        refine lv_iconst (v := 1) hx hb d_D_begin_64 (by decide) ?_
        refine lv_iadd hx hb d_D_begin_65 ?_
        refine ypf_25_5 hx hb hown hE hW (lk_D_29 hE) d_D_begin_66 (fun z6 H locs e_z6 hW => ?_)
        have hP := hP z6 e_z6
        refine lv_goto (tgt := 24) hx hb d_D_begin_69 rfl ?_
        exact ih _ _ _ _ hP hl hW
set_option maxHeartbeats 4000000 in
set_option maxRecDepth 100000 in
theorem wJ_D_begin_72 {Q : Int32 → St → Prop} (E : En p l s m meth c args cc_D_begin 4 R_D (some .int) G)
    (z0 : St) (ls : Array Slot) (H : Heap) (locs : List Loc) (hP : J_D_begin_72 Q z0) (hl : lv_has ls 4 [(0, .ref (ha G 25))]) (hW : Wd G z0 s.heap H locs) : W p l e rm_D_begin s m args below meth c H locs 0 0 (MQ below (QiR Q G) args s 0 0 (fr G)) (F0 m 72 ls []) := by
  obtain ⟨hx, hb, hml, hown, hr, hlk, hex, hE⟩ := id E
  refine lv_aload_n hx hb d_D_begin_72 rfl (lv_at hl 0 rfl) ?_
  refine lv_iconst (v := 0) hx hb d_D_begin_73 (by decide) ?_
  refine ypf_25_6 hx hb hown hE hW (lk_D_32 hE) d_D_begin_74 (fun z8 H locs e_z8 hW => ?_)
  have hP := hP z8 e_z8
  refine lv_aload_n hx hb d_D_begin_77 rfl (lv_at hl 0 rfl) ?_
  refine lv_lconst (v := 0) hx hb d_D_begin_78 (by decide) ?_
  refine ypf_25_7 hx hb hown hE hW (lk_D_35 hE) d_D_begin_79 (fun z9 H locs e_z9 hW => ?_)
  have hP := hP z9 e_z9
  refine lv_aload_n hx hb d_D_begin_82 rfl (lv_at hl 0 rfl) ?_
  refine lv_iconst (v := 1) hx hb d_D_begin_83 (by decide) ?_
  refine ypf_25_0 hx hb hown hE hW zb_1 (lk_D_9 hE) d_D_begin_84 (fun z10 H locs e_z10 hW => ?_)
  have hP := hP z10 e_z10
  refine lv_aload_n hx hb d_D_begin_87 rfl (lv_at hl 0 rfl) ?_
  refine lv_aload_n hx hb d_D_begin_88 rfl (lv_at hl 0 rfl) ?_
  refine ygf_25_5 hx hb hown hE hW (lk_D_29 hE) d_D_begin_89 ?_
  refine lv_if_ne (tgt := 99) hx hb d_D_begin_92 rfl (fun hc => ?_) (fun hc => ?_)
  · have hP := hP.1 hc
    refine lv_iconst (v := 0) hx hb d_D_begin_99 (by decide) ?_
    refine ypf_25_1 hx hb hown hE hW zb_0 (lk_D_15 hE) d_D_begin_100 (fun z11 H locs e_z11 hW => ?_)
    have hP := hP z11 e_z11
    refine lv_aload_n hx hb d_D_begin_103 rfl (lv_at hl 0 rfl) ?_
    refine ygf_25_5 hx hb hown hE hW (lk_D_29 hE) d_D_begin_104 ?_
    exact yr_i hx hb hr hlk hW hP d_D_begin_107
  · have hP := hP.2 hc
    refine lv_iconst (v := 1) hx hb d_D_begin_95 (by decide) ?_
    refine lv_goto (tgt := 100) hx hb d_D_begin_96 rfl ?_
    refine ypf_25_1 hx hb hown hE hW zb_1 (lk_D_15 hE) d_D_begin_100 (fun z12 H locs e_z12 hW => ?_)
    have hP := hP z12 e_z12
    refine lv_aload_n hx hb d_D_begin_103 rfl (lv_at hl 0 rfl) ?_
    refine ygf_25_5 hx hb hown hE hW (lk_D_29 hE) d_D_begin_104 ?_
    exact yr_i hx hb hr hlk hW hP d_D_begin_107
set_option maxHeartbeats 4000000 in
set_option maxRecDepth 100000 in
theorem c_D_begin {l : Launch} {G : GG} (a1 : Int32) (a2 : Int64) (z0 : St) (Q : Int32 → St → Prop) (hP : P_D_begin a1 a2 z0 Q) : Cti l y_D_begin cc_D_begin 4 (some .int) rm_D_begin G [.ref (ha G 25), .int a1, .long a2] z0 Q := by
  refine Cti.op (own := R_D) (by decide) rfl (Nat.le_of_ble_eq_true rfl) (fun p e s m args below meth c ls E hl hW => ?_)
  obtain ⟨hx, hb, hml, hown, hr, hlk, hex, hE⟩ := id E
  have hl : lv_has ls 4 [(0, .ref (ha G 25)), (1, .int a1), (2, .long a2)] := hl
  refine lv_aload_n hx hb d_D_begin_0 rfl (lv_at hl 0 rfl) ?_
  refine lv_iload_n hx hb d_D_begin_1 rfl (lv_at hl 1 rfl) ?_
  refine ypf_25_2 hx hb hown hE hW (lk_D_18 hE) d_D_begin_2 (fun z1 H locs e_z1 hW => ?_)
  have hP := hP z1 e_z1
  refine lv_aload_n hx hb d_D_begin_5 rfl (lv_at hl 0 rfl) ?_
  refine lv_lconst (v := 1) hx hb d_D_begin_6 (by decide) ?_
  refine lv_lload_n hx hb d_D_begin_7 rfl (lv_at hl 2 rfl) ?_
  refine ym_maxL (rest := [.ref (ha G 25)]) hx hb (hml.trans hl.1.symm) hown hE (lk_D_38 hE) (by decide) rfl d_D_begin_8 ?_
  refine ypf_25_3 hx hb hown hE hW (lk_D_22 hE) d_D_begin_11 (fun z2 H locs e_z2 hW => ?_)
  have hP := hP z2 e_z2
  refine lv_aload_n hx hb d_D_begin_14 rfl (lv_at hl 0 rfl) ?_
  refine lv_lconst (v := 1) hx hb d_D_begin_15 (by decide) ?_
  refine ypf_25_4 hx hb hown hE hW (lk_D_26 hE) d_D_begin_16 (fun z3 H locs e_z3 hW => ?_)
  have hP := hP z3 e_z3
  refine lv_aload_n hx hb d_D_begin_19 rfl (lv_at hl 0 rfl) ?_
  refine lv_iconst (v := 0) hx hb d_D_begin_20 (by decide) ?_
  refine ypf_25_5 hx hb hown hE hW (lk_D_29 hE) d_D_begin_21 (fun z4 H locs e_z4 hW => ?_)
  have hP := hP z4 e_z4
  obtain ⟨n2, hP⟩ := hP
  refine wL_D_begin_24 E ?_ n2 _ _ _ _ hP (lv_sub hl [0] rfl) hW
  · intro z7 ls H locs hP hl hW
    exact wJ_D_begin_72 E _ _ _ _ hP hl hW
end Code
