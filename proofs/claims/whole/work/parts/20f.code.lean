/-! O_dice, D_awaitThrow, D_haveSide, D_take, O_roll, D_haveNumber, D_made, O_number, O_requireNumber, S_fill, O_draw, O_requireDrawn, S_at, O_member, S_isMember, S_vacate, O_dropOut, S_candidateAt, O_candidate, S_admitCandidate, O_replace, O_breach, A_fill4, P_clear, A_fill5, A_fill6, Q_clear, S_clear, O_reset, M_thrown, M_isTrait, M_is -/
section Code
variable {p : Program} {l : Launch} {e : Env} {s : State} {m : MethodId} {args : Array Value} {below : List Frame} {meth : Method} {c : Code} {G : GG}
theorem d_O_dice_0 : decode cc_O_dice 0 = .ok (.iload_n 1, 1) := by decide +kernel
theorem d_O_dice_1 : decode cc_O_dice 1 = .ok (.iconst 2, 1) := by decide +kernel
theorem d_O_dice_2 : decode cc_O_dice 2 = .ok (.if_icmp .lt 9, 3) := by decide +kernel
theorem d_O_dice_5 : decode cc_O_dice 5 = .ok (.iload_n 1, 1) := by decide +kernel
theorem d_O_dice_6 : decode cc_O_dice 6 = .ok (.bipush 20, 2) := by decide +kernel
theorem d_O_dice_8 : decode cc_O_dice 8 = .ok (.if_icmp .le 13, 3) := by decide +kernel
theorem d_O_dice_11 : decode cc_O_dice 11 = .ok (.new 87, 3) := by decide +kernel
theorem d_O_dice_14 : decode cc_O_dice 14 = .ok (.dup, 1) := by decide +kernel
theorem d_O_dice_15 : decode cc_O_dice 15 = .ok (.ldc 207, 2) := by decide +kernel
theorem d_O_dice_17 : decode cc_O_dice 17 = .ok (.invokespecial 91, 3) := by decide +kernel
theorem d_O_dice_20 : decode cc_O_dice 20 = .ok (.athrow, 1) := by decide +kernel
theorem d_O_dice_21 : decode cc_O_dice 21 = .ok (.aload_n 0, 1) := by decide +kernel
theorem d_O_dice_22 : decode cc_O_dice 22 = .ok (.invokevirtual 137, 3) := by decide +kernel
theorem d_O_dice_25 : decode cc_O_dice 25 = .ok (.aload_n 0, 1) := by decide +kernel
theorem d_O_dice_26 : decode cc_O_dice 26 = .ok (.invokevirtual 209, 3) := by decide +kernel
theorem d_O_dice_29 : decode cc_O_dice 29 = .ok (.lstore_n 2, 1) := by decide +kernel
theorem d_O_dice_30 : decode cc_O_dice 30 = .ok (.lload_n 2, 1) := by decide +kernel
theorem d_O_dice_31 : decode cc_O_dice 31 = .ok (.lconst 1, 1) := by decide +kernel
theorem d_O_dice_32 : decode cc_O_dice 32 = .ok (.lcmp, 1) := by decide +kernel
theorem d_O_dice_33 : decode cc_O_dice 33 = .ok (.ifCond .ge 13, 3) := by decide +kernel
theorem d_O_dice_36 : decode cc_O_dice 36 = .ok (.new 117, 3) := by decide +kernel
theorem d_O_dice_39 : decode cc_O_dice 39 = .ok (.dup, 1) := by decide +kernel
theorem d_O_dice_40 : decode cc_O_dice 40 = .ok (.ldc 212, 2) := by decide +kernel
theorem d_O_dice_42 : decode cc_O_dice 42 = .ok (.invokespecial 121, 3) := by decide +kernel
theorem d_O_dice_45 : decode cc_O_dice 45 = .ok (.athrow, 1) := by decide +kernel
theorem d_O_dice_46 : decode cc_O_dice 46 = .ok (.aload_n 0, 1) := by decide +kernel
theorem d_O_dice_47 : decode cc_O_dice 47 = .ok (.getfield 51, 3) := by decide +kernel
theorem d_O_dice_50 : decode cc_O_dice 50 = .ok (.iload_n 1, 1) := by decide +kernel
theorem d_O_dice_51 : decode cc_O_dice 51 = .ok (.lload_n 2, 1) := by decide +kernel
theorem d_O_dice_52 : decode cc_O_dice 52 = .ok (.invokevirtual 214, 3) := by decide +kernel
theorem d_O_dice_55 : decode cc_O_dice 55 = .ok (.ireturn, 1) := by decide +kernel
def P_O_dice (a1 : Int32) (z0 : St) (Q : Int32 → St → Prop) (X : Nat → St → Prop) : Prop := ((a1 < (2 : Int32)) → X 0 z0) ∧ ((¬ a1 < (2 : Int32)) → ((a1 ≤ (20 : Int32)) → P_O_requireCountable z0 (fun (z1 : St) => P_O_goalNow z1 (fun (x3 : Int64) (z2 : St) => (((1 : Int64) ≤ x3) → P_D_begin a1 x3 z2 (fun (x5 : Int32) (z4 : St) => Q x5 z4)) ∧ ((¬ (1 : Int64) ≤ x3) → X 1 z2))) X) ∧ ((¬ a1 ≤ (20 : Int32)) → X 0 z0))
set_option maxHeartbeats 4000000 in
set_option maxRecDepth 100000 in
theorem c_O_dice {l : Launch} {G : GG} (a1 : Int32) (z0 : St) (Q : Int32 → St → Prop) (X : Nat → St → Prop) (hP : P_O_dice a1 z0 Q X) : CtiX l y_O_dice cc_O_dice 4 (some .int) rm_O_dice G [.ref (ha G 0), .int a1] z0 Q X := by
  refine CtiX.op (own := R_O) (by decide) rfl (Nat.le_of_ble_eq_true rfl) (fun p e s m args below meth c ls E hl hW => ?_)
  obtain ⟨hx, hb, hml, hown, hr, hlk, hex, hE⟩ := id E
  have hl : lv_has ls 4 [(0, .ref (ha G 0)), (1, .int a1)] := hl
  refine lv_iload_n hx hb d_O_dice_0 rfl (lv_at hl 1 rfl) ?_
  refine lv_iconst (v := 2) hx hb d_O_dice_1 (by decide) ?_
  refine lv_icmp_lt (tgt := 11) hx hb d_O_dice_2 rfl (fun hc => ?_) (fun hc => ?_)
  · have hP := hP.1 hc
    exact yt (k := 0) hx hb hown hlk hex hE hW hl.1 hml (by decide) (by decide) (fun _ h => lt_O_0_207 h) d_O_dice_11 d_O_dice_14 (Or.inl ⟨d_O_dice_15, rfl⟩) d_O_dice_17 d_O_dice_20 hP (fun _ _ h1 h2 => Or.inr ⟨h1, h2⟩)
  · have hP := hP.2 hc
    refine lv_iload_n hx hb d_O_dice_5 rfl (lv_at hl 1 rfl) ?_
    refine lv_bipush (v := 20) hx hb d_O_dice_6 (by decide) ?_
    refine lv_icmp_le (tgt := 21) hx hb d_O_dice_8 rfl (fun hc => ?_) (fun hc => ?_)
    · have hP := hP.1 hc
      refine lv_aload_n hx hb d_O_dice_21 rfl (lv_at hl 0 rfl) ?_
      refine yx_v (yVX (As := []) (rest := []) E (c_O_requireCountable _ _ _ hP) (cw_O_137 hE) (yrv_0 hE hW) (by decide) hW hl.1 rfl rfl rfl d_O_dice_22) hW (fun z1 H locs hP hW => ?_) hlk hex (fun _ _ h1 h2 => Or.inr ⟨h1, h2⟩)
      refine lv_aload_n hx hb d_O_dice_25 rfl (lv_at hl 0 rfl) ?_
      refine yc_l (yV (As := []) (rest := []) E (c_O_goalNow _ _ hP) (cw_O_209 hE) (yrv_0 hE hW) (by decide) hW hl.1 rfl rfl rfl d_O_dice_26) hW (fun x3 z2 H locs hP hW => ?_)
      refine lv_lstore_n (lv' := [(2, .long x3), (0, .ref (ha G 0)), (1, .int a1)]) hx hb d_O_dice_29 rfl hl (by decide) rfl (fun ls hl => ?_)
      refine lv_lload_n hx hb d_O_dice_30 rfl (lv_at hl 0 rfl) ?_
      refine lv_lconst (v := 1) hx hb d_O_dice_31 (by decide) ?_
      refine W.lcmp hx hb d_O_dice_32 ?_
      refine lv_if_ge (tgt := 46) hx hb d_O_dice_33 rfl (fun hc => ?_) (fun hc => ?_)
      · have hP := hP.1 (lgc_get hc)
        refine lv_aload_n hx hb d_O_dice_46 rfl (lv_at hl 1 rfl) ?_
        refine ygf_0_5 hx hb hown hE hW (lk_O_51 hE) d_O_dice_47 ?_
        refine lv_iload_n hx hb d_O_dice_50 rfl (lv_at hl 2 rfl) ?_
        refine lv_lload_n hx hb d_O_dice_51 rfl (lv_at hl 0 rfl) ?_
        refine yc_i (yV (As := [.int a1, .long x3]) (rest := []) E (c_D_begin _ _ _ _ hP) (cw_O_214 hE) (yrv_25 hE hW) (by decide) hW hl.1 rfl rfl rfl d_O_dice_52) hW (fun x5 z4 H locs hP hW => ?_)
        exact yr_iX hx hb hr hlk hW hP d_O_dice_55
      · have hP := hP.2 (lgc_gef hc)
        exact yt (k := 1) hx hb hown hlk hex hE hW hl.1 hml (by decide) (by decide) (fun _ h => lt_O_1_212 h) d_O_dice_36 d_O_dice_39 (Or.inl ⟨d_O_dice_40, rfl⟩) d_O_dice_42 d_O_dice_45 hP (fun _ _ h1 h2 => Or.inr ⟨h1, h2⟩)
    · have hP := hP.2 hc
      exact yt (k := 0) hx hb hown hlk hex hE hW hl.1 hml (by decide) (by decide) (fun _ h => lt_O_0_207 h) d_O_dice_11 d_O_dice_14 (Or.inl ⟨d_O_dice_15, rfl⟩) d_O_dice_17 d_O_dice_20 hP (fun _ _ h1 h2 => Or.inr ⟨h1, h2⟩)
theorem d_D_awaitThrow_0 : decode cc_D_awaitThrow 0 = .ok (.aload_n 0, 1) := by decide +kernel
theorem d_D_awaitThrow_1 : decode cc_D_awaitThrow 1 = .ok (.getfield 9, 3) := by decide +kernel
theorem d_D_awaitThrow_4 : decode cc_D_awaitThrow 4 = .ok (.ifCond .eq 14, 3) := by decide +kernel
theorem d_D_awaitThrow_7 : decode cc_D_awaitThrow 7 = .ok (.aload_n 0, 1) := by decide +kernel
theorem d_D_awaitThrow_8 : decode cc_D_awaitThrow 8 = .ok (.getfield 15, 3) := by decide +kernel
theorem d_D_awaitThrow_11 : decode cc_D_awaitThrow 11 = .ok (.ifCond .ne 7, 3) := by decide +kernel
theorem d_D_awaitThrow_14 : decode cc_D_awaitThrow 14 = .ok (.iconst 1, 1) := by decide +kernel
theorem d_D_awaitThrow_15 : decode cc_D_awaitThrow 15 = .ok (.goto 4, 3) := by decide +kernel
theorem d_D_awaitThrow_18 : decode cc_D_awaitThrow 18 = .ok (.iconst 0, 1) := by decide +kernel
theorem d_D_awaitThrow_19 : decode cc_D_awaitThrow 19 = .ok (.ireturn, 1) := by decide +kernel
def P_D_awaitThrow (z0 : St) (Q : Int32 → St → Prop) : Prop := (((z0.1 25 0) = 0) → Q (0 : Int32) z0) ∧ ((¬ (z0.1 25 0) = 0) → ((¬ (z0.1 25 1) = 0) → Q (0 : Int32) z0) ∧ (((z0.1 25 1) = 0) → Q (1 : Int32) z0))
set_option maxHeartbeats 4000000 in
set_option maxRecDepth 100000 in
theorem c_D_awaitThrow {l : Launch} {G : GG} (z0 : St) (Q : Int32 → St → Prop) (hP : P_D_awaitThrow z0 Q) : Cti l y_D_awaitThrow cc_D_awaitThrow 1 (some .boolean) rm_D_awaitThrow G [.ref (ha G 25)] z0 Q := by
  refine Cti.op (own := R_D) (by decide) rfl (Nat.le_of_ble_eq_true rfl) (fun p e s m args below meth c ls E hl hW => ?_)
  obtain ⟨hx, hb, hml, hown, hr, hlk, hex, hE⟩ := id E
  have hl : lv_has ls 1 [(0, .ref (ha G 25))] := hl
  refine lv_aload_n hx hb d_D_awaitThrow_0 rfl (lv_at hl 0 rfl) ?_
  refine ygf_25_0 hx hb hown hE hW (lk_D_9 hE) d_D_awaitThrow_1 ?_
  refine lv_if_eq (tgt := 18) hx hb d_D_awaitThrow_4 rfl (fun hc => ?_) (fun hc => ?_)
  · have hP := hP.1 hc
    refine lv_iconst (v := 0) hx hb d_D_awaitThrow_18 (by decide) ?_
    exact yr_z hx hb hr hlk hW zb_0 hP d_D_awaitThrow_19
  · have hP := hP.2 hc
    refine lv_aload_n hx hb d_D_awaitThrow_7 rfl (lv_at hl 0 rfl) ?_
    refine ygf_25_1 hx hb hown hE hW (lk_D_15 hE) d_D_awaitThrow_8 ?_
    refine lv_if_ne (tgt := 18) hx hb d_D_awaitThrow_11 rfl (fun hc => ?_) (fun hc => ?_)
    · have hP := hP.1 hc
      refine lv_iconst (v := 0) hx hb d_D_awaitThrow_18 (by decide) ?_
      exact yr_z hx hb hr hlk hW zb_0 hP d_D_awaitThrow_19
    · have hP := hP.2 hc
      refine lv_iconst (v := 1) hx hb d_D_awaitThrow_14 (by decide) ?_
      refine lv_goto (tgt := 19) hx hb d_D_awaitThrow_15 rfl ?_
      exact yr_z hx hb hr hlk hW zb_1 hP d_D_awaitThrow_19
theorem d_D_haveSide_0 : decode cc_D_haveSide 0 = .ok (.iload_n 1, 1) := by decide +kernel
theorem d_D_haveSide_1 : decode cc_D_haveSide 1 = .ok (.iconst 1, 1) := by decide +kernel
theorem d_D_haveSide_2 : decode cc_D_haveSide 2 = .ok (.if_icmp .lt 15, 3) := by decide +kernel
theorem d_D_haveSide_5 : decode cc_D_haveSide 5 = .ok (.iload_n 1, 1) := by decide +kernel
theorem d_D_haveSide_6 : decode cc_D_haveSide 6 = .ok (.aload_n 0, 1) := by decide +kernel
theorem d_D_haveSide_7 : decode cc_D_haveSide 7 = .ok (.getfield 18, 3) := by decide +kernel
theorem d_D_haveSide_10 : decode cc_D_haveSide 10 = .ok (.if_icmp .gt 7, 3) := by decide +kernel
theorem d_D_haveSide_13 : decode cc_D_haveSide 13 = .ok (.iconst 1, 1) := by decide +kernel
theorem d_D_haveSide_14 : decode cc_D_haveSide 14 = .ok (.goto 4, 3) := by decide +kernel
theorem d_D_haveSide_17 : decode cc_D_haveSide 17 = .ok (.iconst 0, 1) := by decide +kernel
theorem d_D_haveSide_18 : decode cc_D_haveSide 18 = .ok (.ireturn, 1) := by decide +kernel
def P_D_haveSide (a1 : Int32) (z0 : St) (Q : Int32 → St → Prop) : Prop := ((a1 < (1 : Int32)) → Q (0 : Int32) z0) ∧ ((¬ a1 < (1 : Int32)) → (((z0.1 25 2) < a1) → Q (0 : Int32) z0) ∧ ((¬ (z0.1 25 2) < a1) → Q (1 : Int32) z0))
set_option maxHeartbeats 4000000 in
set_option maxRecDepth 100000 in
theorem c_D_haveSide {l : Launch} {G : GG} (a1 : Int32) (z0 : St) (Q : Int32 → St → Prop) (hP : P_D_haveSide a1 z0 Q) : Cti l y_D_haveSide cc_D_haveSide 2 (some .boolean) rm_D_haveSide G [.ref (ha G 25), .int a1] z0 Q := by
  refine Cti.op (own := R_D) (by decide) rfl (Nat.le_of_ble_eq_true rfl) (fun p e s m args below meth c ls E hl hW => ?_)
  obtain ⟨hx, hb, hml, hown, hr, hlk, hex, hE⟩ := id E
  have hl : lv_has ls 2 [(0, .ref (ha G 25)), (1, .int a1)] := hl
  refine lv_iload_n hx hb d_D_haveSide_0 rfl (lv_at hl 1 rfl) ?_
  refine lv_iconst (v := 1) hx hb d_D_haveSide_1 (by decide) ?_
  refine lv_icmp_lt (tgt := 17) hx hb d_D_haveSide_2 rfl (fun hc => ?_) (fun hc => ?_)
  · have hP := hP.1 hc
    refine lv_iconst (v := 0) hx hb d_D_haveSide_17 (by decide) ?_
    exact yr_z hx hb hr hlk hW zb_0 hP d_D_haveSide_18
  · have hP := hP.2 hc
    refine lv_iload_n hx hb d_D_haveSide_5 rfl (lv_at hl 1 rfl) ?_
    refine lv_aload_n hx hb d_D_haveSide_6 rfl (lv_at hl 0 rfl) ?_
    refine ygf_25_2 hx hb hown hE hW (lk_D_18 hE) d_D_haveSide_7 ?_
    refine lv_icmp_gt (tgt := 17) hx hb d_D_haveSide_10 rfl (fun hc => ?_) (fun hc => ?_)
    · have hP := hP.1 hc
      refine lv_iconst (v := 0) hx hb d_D_haveSide_17 (by decide) ?_
      exact yr_z hx hb hr hlk hW zb_0 hP d_D_haveSide_18
    · have hP := hP.2 hc
      refine lv_iconst (v := 1) hx hb d_D_haveSide_13 (by decide) ?_
      refine lv_goto (tgt := 18) hx hb d_D_haveSide_14 rfl ?_
      exact yr_z hx hb hr hlk hW zb_1 hP d_D_haveSide_18
theorem d_D_take_0 : decode cc_D_take 0 = .ok (.aload_n 0, 1) := by decide +kernel
theorem d_D_take_1 : decode cc_D_take 1 = .ok (.aload_n 0, 1) := by decide +kernel
theorem d_D_take_2 : decode cc_D_take 2 = .ok (.getfield 35, 3) := by decide +kernel
theorem d_D_take_5 : decode cc_D_take 5 = .ok (.aload_n 0, 1) := by decide +kernel
theorem d_D_take_6 : decode cc_D_take 6 = .ok (.getfield 18, 3) := by decide +kernel
theorem d_D_take_9 : decode cc_D_take 9 = .ok (.i2l, 1) := by decide +kernel
theorem d_D_take_10 : decode cc_D_take 10 = .ok (.lmul, 1) := by decide +kernel
theorem d_D_take_11 : decode cc_D_take 11 = .ok (.iload_n 1, 1) := by decide +kernel
theorem d_D_take_12 : decode cc_D_take 12 = .ok (.i2l, 1) := by decide +kernel
theorem d_D_take_13 : decode cc_D_take 13 = .ok (.ladd, 1) := by decide +kernel
theorem d_D_take_14 : decode cc_D_take 14 = .ok (.lconst 1, 1) := by decide +kernel
theorem d_D_take_15 : decode cc_D_take 15 = .ok (.lsub, 1) := by decide +kernel
theorem d_D_take_16 : decode cc_D_take 16 = .ok (.putfield 35, 3) := by decide +kernel
theorem d_D_take_19 : decode cc_D_take 19 = .ok (.aload_n 0, 1) := by decide +kernel
theorem d_D_take_20 : decode cc_D_take 20 = .ok (.dup, 1) := by decide +kernel
theorem d_D_take_21 : decode cc_D_take 21 = .ok (.getfield 32, 3) := by decide +kernel
theorem d_D_take_24 : decode cc_D_take 24 = .ok (.iconst 1, 1) := by decide +kernel
theorem d_D_take_25 : decode cc_D_take 25 = .ok (.iadd, 1) := by decide +kernel
theorem d_D_take_26 : decode cc_D_take 26 = .ok (.putfield 32, 3) := by decide +kernel
theorem d_D_take_29 : decode cc_D_take 29 = .ok (.aload_n 0, 1) := by decide +kernel
theorem d_D_take_30 : decode cc_D_take 30 = .ok (.getfield 32, 3) := by decide +kernel
theorem d_D_take_33 : decode cc_D_take 33 = .ok (.aload_n 0, 1) := by decide +kernel
theorem d_D_take_34 : decode cc_D_take 34 = .ok (.getfield 29, 3) := by decide +kernel
theorem d_D_take_37 : decode cc_D_take 37 = .ok (.if_icmp .ge 5, 3) := by decide +kernel
theorem d_D_take_40 : decode cc_D_take 40 = .ok (.iconst 0, 1) := by decide +kernel
theorem d_D_take_41 : decode cc_D_take 41 = .ok (.ireturn, 1) := by decide +kernel
theorem d_D_take_42 : decode cc_D_take 42 = .ok (.aload_n 0, 1) := by decide +kernel
theorem d_D_take_43 : decode cc_D_take 43 = .ok (.getfield 35, 3) := by decide +kernel
theorem d_D_take_46 : decode cc_D_take 46 = .ok (.aload_n 0, 1) := by decide +kernel
theorem d_D_take_47 : decode cc_D_take 47 = .ok (.getfield 26, 3) := by decide +kernel
theorem d_D_take_50 : decode cc_D_take 50 = .ok (.aload_n 0, 1) := by decide +kernel
theorem d_D_take_51 : decode cc_D_take 51 = .ok (.getfield 26, 3) := by decide +kernel
theorem d_D_take_54 : decode cc_D_take 54 = .ok (.aload_n 0, 1) := by decide +kernel
theorem d_D_take_55 : decode cc_D_take 55 = .ok (.getfield 22, 3) := by decide +kernel
theorem d_D_take_58 : decode cc_D_take 58 = .ok (.lrem, 1) := by decide +kernel
theorem d_D_take_59 : decode cc_D_take 59 = .ok (.lsub, 1) := by decide +kernel
theorem d_D_take_60 : decode cc_D_take 60 = .ok (.lcmp, 1) := by decide +kernel
theorem d_D_take_61 : decode cc_D_take 61 = .ok (.ifCond .lt 15, 3) := by decide +kernel
theorem d_D_take_64 : decode cc_D_take 64 = .ok (.aload_n 0, 1) := by decide +kernel
theorem d_D_take_65 : decode cc_D_take 65 = .ok (.iconst 0, 1) := by decide +kernel
theorem d_D_take_66 : decode cc_D_take 66 = .ok (.putfield 32, 3) := by decide +kernel
theorem d_D_take_69 : decode cc_D_take 69 = .ok (.aload_n 0, 1) := by decide +kernel
theorem d_D_take_70 : decode cc_D_take 70 = .ok (.lconst 0, 1) := by decide +kernel
theorem d_D_take_71 : decode cc_D_take 71 = .ok (.putfield 35, 3) := by decide +kernel
theorem d_D_take_74 : decode cc_D_take 74 = .ok (.iconst 2, 1) := by decide +kernel
theorem d_D_take_75 : decode cc_D_take 75 = .ok (.ireturn, 1) := by decide +kernel
theorem d_D_take_76 : decode cc_D_take 76 = .ok (.aload_n 0, 1) := by decide +kernel
theorem d_D_take_77 : decode cc_D_take 77 = .ok (.dup, 1) := by decide +kernel
theorem d_D_take_78 : decode cc_D_take 78 = .ok (.getfield 35, 3) := by decide +kernel
theorem d_D_take_81 : decode cc_D_take 81 = .ok (.aload_n 0, 1) := by decide +kernel
theorem d_D_take_82 : decode cc_D_take 82 = .ok (.getfield 22, 3) := by decide +kernel
theorem d_D_take_85 : decode cc_D_take 85 = .ok (.lrem, 1) := by decide +kernel
theorem d_D_take_86 : decode cc_D_take 86 = .ok (.putfield 35, 3) := by decide +kernel
theorem d_D_take_89 : decode cc_D_take 89 = .ok (.aload_n 0, 1) := by decide +kernel
theorem d_D_take_90 : decode cc_D_take 90 = .ok (.iconst 1, 1) := by decide +kernel
theorem d_D_take_91 : decode cc_D_take 91 = .ok (.putfield 15, 3) := by decide +kernel
theorem d_D_take_94 : decode cc_D_take 94 = .ok (.iconst 1, 1) := by decide +kernel
theorem d_D_take_95 : decode cc_D_take 95 = .ok (.ireturn, 1) := by decide +kernel
def P_D_take (a1 : Int32) (z0 : St) (Q : Int32 → St → Prop) : Prop := ∀ z1 : St, z1 = wL z0 25 7 ((((z0.2 25 7) * ((z0.1 25 2).toInt64)) + a1.toInt64) - (1 : Int64)) → ∀ z2 : St, z2 = wI z1 25 6 ((z1.1 25 6) + (1 : Int32)) → (((z2.1 25 5) ≤ (z2.1 25 6)) → ¬ (z2.2 25 3) = 0 ∧ (((z2.2 25 7) < ((z2.2 25 4) - ((z2.2 25 4) - (z2.2 25 4) / (z2.2 25 3) * (z2.2 25 3)))) → ¬ (z2.2 25 3) = 0 ∧ ∀ z3 : St, z3 = wL z2 25 7 ((z2.2 25 7) - (z2.2 25 7) / (z2.2 25 3) * (z2.2 25 3)) → ∀ z4 : St, z4 = wI z3 25 1 (1 : Int32) → Q (1 : Int32) z4) ∧ ((¬ (z2.2 25 7) < ((z2.2 25 4) - ((z2.2 25 4) - (z2.2 25 4) / (z2.2 25 3) * (z2.2 25 3)))) → ∀ z5 : St, z5 = wI z2 25 6 (0 : Int32) → ∀ z6 : St, z6 = wL z5 25 7 (0 : Int64) → Q (2 : Int32) z6)) ∧ ((¬ (z2.1 25 5) ≤ (z2.1 25 6)) → Q (0 : Int32) z2)
set_option maxHeartbeats 4000000 in
set_option maxRecDepth 100000 in
theorem c_D_take {l : Launch} {G : GG} (a1 : Int32) (z0 : St) (Q : Int32 → St → Prop) (hP : P_D_take a1 z0 Q) : Cti l y_D_take cc_D_take 2 (some .int) rm_D_take G [.ref (ha G 25), .int a1] z0 Q := by
  refine Cti.op (own := R_D) (by decide) rfl (Nat.le_of_ble_eq_true rfl) (fun p e s m args below meth c ls E hl hW => ?_)
  obtain ⟨hx, hb, hml, hown, hr, hlk, hex, hE⟩ := id E
  have hl : lv_has ls 2 [(0, .ref (ha G 25)), (1, .int a1)] := hl
  refine lv_aload_n hx hb d_D_take_0 rfl (lv_at hl 0 rfl) ?_
  refine lv_aload_n hx hb d_D_take_1 rfl (lv_at hl 0 rfl) ?_
  refine ygf_25_7 hx hb hown hE hW (lk_D_35 hE) d_D_take_2 ?_
  refine lv_aload_n hx hb d_D_take_5 rfl (lv_at hl 0 rfl) ?_
  refine ygf_25_2 hx hb hown hE hW (lk_D_18 hE) d_D_take_6 ?_
  refine lv_i2l hx hb d_D_take_9 rfl ?_
  refine lv_lmul hx hb d_D_take_10 ?_
  refine lv_iload_n hx hb d_D_take_11 rfl (lv_at hl 1 rfl) ?_
  refine lv_i2l hx hb d_D_take_12 rfl ?_
  refine lv_ladd hx hb d_D_take_13 ?_
  refine lv_lconst (v := 1) hx hb d_D_take_14 (by decide) ?_
  refine lv_lsub hx hb d_D_take_15 ?_
  refine ypf_25_7 hx hb hown hE hW (lk_D_35 hE) d_D_take_16 (fun z1 H locs e_z1 hW => ?_)
  have hP := hP z1 e_z1
  refine lv_aload_n hx hb d_D_take_19 rfl (lv_at hl 0 rfl) ?_
  refine lv_dup hx hb d_D_take_20 rfl ?_
  refine ygf_25_6 hx hb hown hE hW (lk_D_32 hE) d_D_take_21 ?_
  refine lv_iconst (v := 1) hx hb d_D_take_24 (by decide) ?_
  refine lv_iadd hx hb d_D_take_25 ?_
  refine ypf_25_6 hx hb hown hE hW (lk_D_32 hE) d_D_take_26 (fun z2 H locs e_z2 hW => ?_)
  have hP := hP z2 e_z2
  refine lv_aload_n hx hb d_D_take_29 rfl (lv_at hl 0 rfl) ?_
  refine ygf_25_6 hx hb hown hE hW (lk_D_32 hE) d_D_take_30 ?_
  refine lv_aload_n hx hb d_D_take_33 rfl (lv_at hl 0 rfl) ?_
  refine ygf_25_5 hx hb hown hE hW (lk_D_29 hE) d_D_take_34 ?_
  refine lv_icmp_ge (tgt := 42) hx hb d_D_take_37 rfl (fun hc => ?_) (fun hc => ?_)
  · have hP := hP.1 hc
    refine lv_aload_n hx hb d_D_take_42 rfl (lv_at hl 0 rfl) ?_
    refine ygf_25_7 hx hb hown hE hW (lk_D_35 hE) d_D_take_43 ?_
    refine lv_aload_n hx hb d_D_take_46 rfl (lv_at hl 0 rfl) ?_
    refine ygf_25_4 hx hb hown hE hW (lk_D_26 hE) d_D_take_47 ?_
    refine lv_aload_n hx hb d_D_take_50 rfl (lv_at hl 0 rfl) ?_
    refine ygf_25_4 hx hb hown hE hW (lk_D_26 hE) d_D_take_51 ?_
    refine lv_aload_n hx hb d_D_take_54 rfl (lv_at hl 0 rfl) ?_
    refine ygf_25_3 hx hb hown hE hW (lk_D_22 hE) d_D_take_55 ?_
    refine lv_lrem hx hb d_D_take_58 hP.1 ?_
    have hP := hP.2
    refine lv_lsub hx hb d_D_take_59 ?_
    refine W.lcmp hx hb d_D_take_60 ?_
    refine lv_if_lt (tgt := 76) hx hb d_D_take_61 rfl (fun hc => ?_) (fun hc => ?_)
    · have hP := hP.1 (lgc_ltt hc)
      refine lv_aload_n hx hb d_D_take_76 rfl (lv_at hl 0 rfl) ?_
      refine lv_dup hx hb d_D_take_77 rfl ?_
      refine ygf_25_7 hx hb hown hE hW (lk_D_35 hE) d_D_take_78 ?_
      refine lv_aload_n hx hb d_D_take_81 rfl (lv_at hl 0 rfl) ?_
      refine ygf_25_3 hx hb hown hE hW (lk_D_22 hE) d_D_take_82 ?_
      refine lv_lrem hx hb d_D_take_85 hP.1 ?_
      have hP := hP.2
      refine ypf_25_7 hx hb hown hE hW (lk_D_35 hE) d_D_take_86 (fun z3 H locs e_z3 hW => ?_)
      have hP := hP z3 e_z3
      refine lv_aload_n hx hb d_D_take_89 rfl (lv_at hl 0 rfl) ?_
      refine lv_iconst (v := 1) hx hb d_D_take_90 (by decide) ?_
      refine ypf_25_1 hx hb hown hE hW zb_1 (lk_D_15 hE) d_D_take_91 (fun z4 H locs e_z4 hW => ?_)
      have hP := hP z4 e_z4
      refine lv_iconst (v := 1) hx hb d_D_take_94 (by decide) ?_
      exact yr_i hx hb hr hlk hW hP d_D_take_95
    · have hP := hP.2 (lgc_ltf hc)
      refine lv_aload_n hx hb d_D_take_64 rfl (lv_at hl 0 rfl) ?_
      refine lv_iconst (v := 0) hx hb d_D_take_65 (by decide) ?_
      refine ypf_25_6 hx hb hown hE hW (lk_D_32 hE) d_D_take_66 (fun z5 H locs e_z5 hW => ?_)
      have hP := hP z5 e_z5
      refine lv_aload_n hx hb d_D_take_69 rfl (lv_at hl 0 rfl) ?_
      refine lv_lconst (v := 0) hx hb d_D_take_70 (by decide) ?_
      refine ypf_25_7 hx hb hown hE hW (lk_D_35 hE) d_D_take_71 (fun z6 H locs e_z6 hW => ?_)
      have hP := hP z6 e_z6
      refine lv_iconst (v := 2) hx hb d_D_take_74 (by decide) ?_
      exact yr_i hx hb hr hlk hW hP d_D_take_75
  · have hP := hP.2 hc
    refine lv_iconst (v := 0) hx hb d_D_take_40 (by decide) ?_
    exact yr_i hx hb hr hlk hW hP d_D_take_41
theorem d_O_roll_0 : decode cc_O_roll 0 = .ok (.aload_n 0, 1) := by decide +kernel
theorem d_O_roll_1 : decode cc_O_roll 1 = .ok (.getfield 51, 3) := by decide +kernel
theorem d_O_roll_4 : decode cc_O_roll 4 = .ok (.invokevirtual 218, 3) := by decide +kernel
theorem d_O_roll_7 : decode cc_O_roll 7 = .ok (.ifCond .ne 13, 3) := by decide +kernel
theorem d_O_roll_10 : decode cc_O_roll 10 = .ok (.new 117, 3) := by decide +kernel
theorem d_O_roll_13 : decode cc_O_roll 13 = .ok (.dup, 1) := by decide +kernel
theorem d_O_roll_14 : decode cc_O_roll 14 = .ok (.ldc 221, 2) := by decide +kernel
theorem d_O_roll_16 : decode cc_O_roll 16 = .ok (.invokespecial 121, 3) := by decide +kernel
theorem d_O_roll_19 : decode cc_O_roll 19 = .ok (.athrow, 1) := by decide +kernel
theorem d_O_roll_20 : decode cc_O_roll 20 = .ok (.aload_n 0, 1) := by decide +kernel
theorem d_O_roll_21 : decode cc_O_roll 21 = .ok (.getfield 51, 3) := by decide +kernel
theorem d_O_roll_24 : decode cc_O_roll 24 = .ok (.iload_n 1, 1) := by decide +kernel
theorem d_O_roll_25 : decode cc_O_roll 25 = .ok (.invokevirtual 223, 3) := by decide +kernel
theorem d_O_roll_28 : decode cc_O_roll 28 = .ok (.ifCond .ne 13, 3) := by decide +kernel
theorem d_O_roll_31 : decode cc_O_roll 31 = .ok (.new 87, 3) := by decide +kernel
theorem d_O_roll_34 : decode cc_O_roll 34 = .ok (.dup, 1) := by decide +kernel
theorem d_O_roll_35 : decode cc_O_roll 35 = .ok (.ldc 226, 2) := by decide +kernel
theorem d_O_roll_37 : decode cc_O_roll 37 = .ok (.invokespecial 91, 3) := by decide +kernel
theorem d_O_roll_40 : decode cc_O_roll 40 = .ok (.athrow, 1) := by decide +kernel
theorem d_O_roll_41 : decode cc_O_roll 41 = .ok (.aload_n 0, 1) := by decide +kernel
theorem d_O_roll_42 : decode cc_O_roll 42 = .ok (.getfield 51, 3) := by decide +kernel
theorem d_O_roll_45 : decode cc_O_roll 45 = .ok (.iload_n 1, 1) := by decide +kernel
theorem d_O_roll_46 : decode cc_O_roll 46 = .ok (.invokevirtual 228, 3) := by decide +kernel
theorem d_O_roll_49 : decode cc_O_roll 49 = .ok (.ireturn, 1) := by decide +kernel
def P_O_roll (a1 : Int32) (z0 : St) (Q : Int32 → St → Prop) (X : Nat → St → Prop) : Prop := P_D_awaitThrow z0 (fun (x2 : Int32) (z1 : St) => ((¬ x2 = 0) → P_D_haveSide a1 z1 (fun (x4 : Int32) (z3 : St) => ((¬ x4 = 0) → P_D_take a1 z3 (fun (x6 : Int32) (z5 : St) => Q x6 z5)) ∧ ((x4 = 0) → X 0 z3))) ∧ ((x2 = 0) → X 1 z1))
set_option maxHeartbeats 4000000 in
set_option maxRecDepth 100000 in
theorem c_O_roll {l : Launch} {G : GG} (a1 : Int32) (z0 : St) (Q : Int32 → St → Prop) (X : Nat → St → Prop) (hP : P_O_roll a1 z0 Q X) : CtiX l y_O_roll cc_O_roll 2 (some .int) rm_O_roll G [.ref (ha G 0), .int a1] z0 Q X := by
  refine CtiX.op (own := R_O) (by decide) rfl (Nat.le_of_ble_eq_true rfl) (fun p e s m args below meth c ls E hl hW => ?_)
  obtain ⟨hx, hb, hml, hown, hr, hlk, hex, hE⟩ := id E
  have hl : lv_has ls 2 [(0, .ref (ha G 0)), (1, .int a1)] := hl
  refine lv_aload_n hx hb d_O_roll_0 rfl (lv_at hl 0 rfl) ?_
  refine ygf_0_5 hx hb hown hE hW (lk_O_51 hE) d_O_roll_1 ?_
  refine yc_i (yV (As := []) (rest := []) E (c_D_awaitThrow _ _ hP) (cw_O_218 hE) (yrv_25 hE hW) (by decide) hW hl.1 rfl rfl rfl d_O_roll_4) hW (fun x2 z1 H locs hP hW => ?_)
  refine lv_if_ne (tgt := 20) hx hb d_O_roll_7 rfl (fun hc => ?_) (fun hc => ?_)
  · have hP := hP.1 hc
    refine lv_aload_n hx hb d_O_roll_20 rfl (lv_at hl 0 rfl) ?_
    refine ygf_0_5 hx hb hown hE hW (lk_O_51 hE) d_O_roll_21 ?_
    refine lv_iload_n hx hb d_O_roll_24 rfl (lv_at hl 1 rfl) ?_
    refine yc_i (yV (As := [.int a1]) (rest := []) E (c_D_haveSide _ _ _ hP) (cw_O_223 hE) (yrv_25 hE hW) (by decide) hW hl.1 rfl rfl rfl d_O_roll_25) hW (fun x4 z3 H locs hP hW => ?_)
    refine lv_if_ne (tgt := 41) hx hb d_O_roll_28 rfl (fun hc => ?_) (fun hc => ?_)
    · have hP := hP.1 hc
      refine lv_aload_n hx hb d_O_roll_41 rfl (lv_at hl 0 rfl) ?_
      refine ygf_0_5 hx hb hown hE hW (lk_O_51 hE) d_O_roll_42 ?_
      refine lv_iload_n hx hb d_O_roll_45 rfl (lv_at hl 1 rfl) ?_
      refine yc_i (yV (As := [.int a1]) (rest := []) E (c_D_take _ _ _ hP) (cw_O_228 hE) (yrv_25 hE hW) (by decide) hW hl.1 rfl rfl rfl d_O_roll_46) hW (fun x6 z5 H locs hP hW => ?_)
      exact yr_iX hx hb hr hlk hW hP d_O_roll_49
    · have hP := hP.2 hc
      exact yt (k := 0) hx hb hown hlk hex hE hW hl.1 hml (by decide) (by decide) (fun _ h => lt_O_0_226 h) d_O_roll_31 d_O_roll_34 (Or.inl ⟨d_O_roll_35, rfl⟩) d_O_roll_37 d_O_roll_40 hP (fun _ _ h1 h2 => Or.inr ⟨h1, h2⟩)
  · have hP := hP.2 hc
    exact yt (k := 1) hx hb hown hlk hex hE hW hl.1 hml (by decide) (by decide) (fun _ h => lt_O_1_221 h) d_O_roll_10 d_O_roll_13 (Or.inl ⟨d_O_roll_14, rfl⟩) d_O_roll_16 d_O_roll_19 hP (fun _ _ h1 h2 => Or.inr ⟨h1, h2⟩)
theorem d_D_haveNumber_0 : decode cc_D_haveNumber 0 = .ok (.aload_n 0, 1) := by decide +kernel
theorem d_D_haveNumber_1 : decode cc_D_haveNumber 1 = .ok (.getfield 15, 3) := by decide +kernel
theorem d_D_haveNumber_4 : decode cc_D_haveNumber 4 = .ok (.ireturn, 1) := by decide +kernel
def P_D_haveNumber (z0 : St) (Q : Int32 → St → Prop) : Prop := zb (z0.1 25 1) ∧ Q (z0.1 25 1) z0
set_option maxHeartbeats 4000000 in
set_option maxRecDepth 100000 in
theorem c_D_haveNumber {l : Launch} {G : GG} (z0 : St) (Q : Int32 → St → Prop) (hP : P_D_haveNumber z0 Q) : Cti l y_D_haveNumber cc_D_haveNumber 1 (some .boolean) rm_D_haveNumber G [.ref (ha G 25)] z0 Q := by
  refine Cti.op (own := R_D) (by decide) rfl (Nat.le_of_ble_eq_true rfl) (fun p e s m args below meth c ls E hl hW => ?_)
  obtain ⟨hx, hb, hml, hown, hr, hlk, hex, hE⟩ := id E
  have hl : lv_has ls 1 [(0, .ref (ha G 25))] := hl
  refine lv_aload_n hx hb d_D_haveNumber_0 rfl (lv_at hl 0 rfl) ?_
  refine ygf_25_1 hx hb hown hE hW (lk_D_15 hE) d_D_haveNumber_1 ?_
  exact yr_z hx hb hr hlk hW hP.1 hP.2 d_D_haveNumber_4
theorem d_D_made_0 : decode cc_D_made 0 = .ok (.aload_n 0, 1) := by decide +kernel
theorem d_D_made_1 : decode cc_D_made 1 = .ok (.getfield 35, 3) := by decide +kernel
theorem d_D_made_4 : decode cc_D_made 4 = .ok (.lreturn, 1) := by decide +kernel
def P_D_made (z0 : St) (Q : Int64 → St → Prop) : Prop := Q (z0.2 25 7) z0
set_option maxHeartbeats 4000000 in
set_option maxRecDepth 100000 in
theorem c_D_made {l : Launch} {G : GG} (z0 : St) (Q : Int64 → St → Prop) (hP : P_D_made z0 Q) : Ctl l y_D_made cc_D_made 1 (some .long) rm_D_made G [.ref (ha G 25)] z0 Q := by
  refine Ctl.op (own := R_D) (by decide) rfl (Nat.le_of_ble_eq_true rfl) (fun p e s m args below meth c ls E hl hW => ?_)
  obtain ⟨hx, hb, hml, hown, hr, hlk, hex, hE⟩ := id E
  have hl : lv_has ls 1 [(0, .ref (ha G 25))] := hl
  refine lv_aload_n hx hb d_D_made_0 rfl (lv_at hl 0 rfl) ?_
  refine ygf_25_7 hx hb hown hE hW (lk_D_35 hE) d_D_made_1 ?_
  exact yr_l hx hb hr hlk hW hP d_D_made_4
theorem d_O_number_0 : decode cc_O_number 0 = .ok (.aload_n 0, 1) := by decide +kernel
theorem d_O_number_1 : decode cc_O_number 1 = .ok (.getfield 51, 3) := by decide +kernel
theorem d_O_number_4 : decode cc_O_number 4 = .ok (.invokevirtual 231, 3) := by decide +kernel
theorem d_O_number_7 : decode cc_O_number 7 = .ok (.ifCond .ne 13, 3) := by decide +kernel
theorem d_O_number_10 : decode cc_O_number 10 = .ok (.new 202, 3) := by decide +kernel
theorem d_O_number_13 : decode cc_O_number 13 = .ok (.dup, 1) := by decide +kernel
theorem d_O_number_14 : decode cc_O_number 14 = .ok (.ldc 234, 2) := by decide +kernel
theorem d_O_number_16 : decode cc_O_number 16 = .ok (.invokespecial 206, 3) := by decide +kernel
theorem d_O_number_19 : decode cc_O_number 19 = .ok (.athrow, 1) := by decide +kernel
theorem d_O_number_20 : decode cc_O_number 20 = .ok (.aload_n 0, 1) := by decide +kernel
theorem d_O_number_21 : decode cc_O_number 21 = .ok (.getfield 51, 3) := by decide +kernel
theorem d_O_number_24 : decode cc_O_number 24 = .ok (.invokevirtual 236, 3) := by decide +kernel
theorem d_O_number_27 : decode cc_O_number 27 = .ok (.lreturn, 1) := by decide +kernel
def P_O_number (z0 : St) (Q : Int64 → St → Prop) (X : Nat → St → Prop) : Prop := P_D_haveNumber z0 (fun (x2 : Int32) (z1 : St) => ((¬ x2 = 0) → P_D_made z1 (fun (x4 : Int64) (z3 : St) => Q x4 z3)) ∧ ((x2 = 0) → X 2 z1))
set_option maxHeartbeats 4000000 in
set_option maxRecDepth 100000 in
theorem c_O_number {l : Launch} {G : GG} (z0 : St) (Q : Int64 → St → Prop) (X : Nat → St → Prop) (hP : P_O_number z0 Q X) : CtlX l y_O_number cc_O_number 1 (some .long) rm_O_number G [.ref (ha G 0)] z0 Q X := by
  refine CtlX.op (own := R_O) (by decide) rfl (Nat.le_of_ble_eq_true rfl) (fun p e s m args below meth c ls E hl hW => ?_)
  obtain ⟨hx, hb, hml, hown, hr, hlk, hex, hE⟩ := id E
  have hl : lv_has ls 1 [(0, .ref (ha G 0))] := hl
  refine lv_aload_n hx hb d_O_number_0 rfl (lv_at hl 0 rfl) ?_
  refine ygf_0_5 hx hb hown hE hW (lk_O_51 hE) d_O_number_1 ?_
  refine yc_i (yV (As := []) (rest := []) E (c_D_haveNumber _ _ hP) (cw_O_231 hE) (yrv_25 hE hW) (by decide) hW hl.1 rfl rfl rfl d_O_number_4) hW (fun x2 z1 H locs hP hW => ?_)
  refine lv_if_ne (tgt := 20) hx hb d_O_number_7 rfl (fun hc => ?_) (fun hc => ?_)
  · have hP := hP.1 hc
    refine lv_aload_n hx hb d_O_number_20 rfl (lv_at hl 0 rfl) ?_
    refine ygf_0_5 hx hb hown hE hW (lk_O_51 hE) d_O_number_21 ?_
    refine yc_l (yV (As := []) (rest := []) E (c_D_made _ _ hP) (cw_O_236 hE) (yrv_25 hE hW) (by decide) hW hl.1 rfl rfl rfl d_O_number_24) hW (fun x4 z3 H locs hP hW => ?_)
    exact yr_lX hx hb hr hlk hW hP d_O_number_27
  · have hP := hP.2 hc
    exact yt (k := 2) hx hb hown hlk hex hE hW hl.1 hml (by decide) (by decide) (fun _ h => lt_O_2_234 h) d_O_number_10 d_O_number_13 (Or.inl ⟨d_O_number_14, rfl⟩) d_O_number_16 d_O_number_19 hP (fun _ _ h1 h2 => Or.inr ⟨h1, h2⟩)
theorem d_O_requireNumber_0 : decode cc_O_requireNumber 0 = .ok (.aload_n 0, 1) := by decide +kernel
theorem d_O_requireNumber_1 : decode cc_O_requireNumber 1 = .ok (.getfield 51, 3) := by decide +kernel
theorem d_O_requireNumber_4 : decode cc_O_requireNumber 4 = .ok (.invokevirtual 231, 3) := by decide +kernel
theorem d_O_requireNumber_7 : decode cc_O_requireNumber 7 = .ok (.ifCond .ne 13, 3) := by decide +kernel
theorem d_O_requireNumber_10 : decode cc_O_requireNumber 10 = .ok (.new 117, 3) := by decide +kernel
theorem d_O_requireNumber_13 : decode cc_O_requireNumber 13 = .ok (.dup, 1) := by decide +kernel
theorem d_O_requireNumber_14 : decode cc_O_requireNumber 14 = .ok (.ldc 234, 2) := by decide +kernel
theorem d_O_requireNumber_16 : decode cc_O_requireNumber 16 = .ok (.invokespecial 121, 3) := by decide +kernel
theorem d_O_requireNumber_19 : decode cc_O_requireNumber 19 = .ok (.athrow, 1) := by decide +kernel
theorem d_O_requireNumber_20 : decode cc_O_requireNumber 20 = .ok (.return_, 1) := by decide +kernel
def P_O_requireNumber (z0 : St) (Q : St → Prop) (X : Nat → St → Prop) : Prop := P_D_haveNumber z0 (fun (x2 : Int32) (z1 : St) => ((¬ x2 = 0) → Q z1) ∧ ((x2 = 0) → X 1 z1))
set_option maxHeartbeats 4000000 in
set_option maxRecDepth 100000 in
theorem c_O_requireNumber {l : Launch} {G : GG} (z0 : St) (Q : St → Prop) (X : Nat → St → Prop) (hP : P_O_requireNumber z0 Q X) : CtvX l y_O_requireNumber cc_O_requireNumber 1 none rm_O_requireNumber G [.ref (ha G 0)] z0 Q X := by
  refine CtvX.op (own := R_O) (by decide) rfl (Nat.le_of_ble_eq_true rfl) (fun p e s m args below meth c ls E hl hW => ?_)
  obtain ⟨hx, hb, hml, hown, hr, hlk, hex, hE⟩ := id E
  have hl : lv_has ls 1 [(0, .ref (ha G 0))] := hl
  refine lv_aload_n hx hb d_O_requireNumber_0 rfl (lv_at hl 0 rfl) ?_
  refine ygf_0_5 hx hb hown hE hW (lk_O_51 hE) d_O_requireNumber_1 ?_
  refine yc_i (yV (As := []) (rest := []) E (c_D_haveNumber _ _ hP) (cw_O_231 hE) (yrv_25 hE hW) (by decide) hW hl.1 rfl rfl rfl d_O_requireNumber_4) hW (fun x2 z1 H locs hP hW => ?_)
  refine lv_if_ne (tgt := 20) hx hb d_O_requireNumber_7 rfl (fun hc => ?_) (fun hc => ?_)
  · have hP := hP.1 hc
    exact yr_vX hx hb hr hlk hW hP d_O_requireNumber_20
  · have hP := hP.2 hc
    exact yt (k := 1) hx hb hown hlk hex hE hW hl.1 hml (by decide) (by decide) (fun _ h => lt_O_1_234 h) d_O_requireNumber_10 d_O_requireNumber_13 (Or.inl ⟨d_O_requireNumber_14, rfl⟩) d_O_requireNumber_16 d_O_requireNumber_19 hP (fun _ _ h1 h2 => Or.inr ⟨h1, h2⟩)
theorem d_S_fill_0 : decode cc_S_fill 0 = .ok (.aload_n 0, 1) := by decide +kernel
theorem d_S_fill_1 : decode cc_S_fill 1 = .ok (.iload_n 2, 1) := by decide +kernel
theorem d_S_fill_2 : decode cc_S_fill 2 = .ok (.bipush 8, 2) := by decide +kernel
theorem d_S_fill_4 : decode cc_S_fill 4 = .ok (.invokestatic 43, 3) := by decide +kernel
theorem d_S_fill_7 : decode cc_S_fill 7 = .ok (.putfield 21, 3) := by decide +kernel
theorem d_S_fill_10 : decode cc_S_fill 10 = .ok (.iconst 0, 1) := by decide +kernel
theorem d_S_fill_11 : decode cc_S_fill 11 = .ok (.istore_n 3, 1) := by decide +kernel
theorem d_S_fill_12 : decode cc_S_fill 12 = .ok (.iload_n 3, 1) := by decide +kernel
theorem d_S_fill_13 : decode cc_S_fill 13 = .ok (.aload_n 0, 1) := by decide +kernel
theorem d_S_fill_14 : decode cc_S_fill 14 = .ok (.getfield 21, 3) := by decide +kernel
theorem d_S_fill_17 : decode cc_S_fill 17 = .ok (.if_icmp .ge 32, 3) := by decide +kernel
theorem d_S_fill_20 : decode cc_S_fill 20 = .ok (.aload_n 0, 1) := by decide +kernel
theorem d_S_fill_21 : decode cc_S_fill 21 = .ok (.getfield 9, 3) := by decide +kernel
theorem d_S_fill_24 : decode cc_S_fill 24 = .ok (.iload_n 3, 1) := by decide +kernel
theorem d_S_fill_25 : decode cc_S_fill 25 = .ok (.aload_n 1, 1) := by decide +kernel
theorem d_S_fill_26 : decode cc_S_fill 26 = .ok (.iload_n 3, 1) := by decide +kernel
theorem d_S_fill_27 : decode cc_S_fill 27 = .ok (.iaload, 1) := by decide +kernel
theorem d_S_fill_28 : decode cc_S_fill 28 = .ok (.iastore, 1) := by decide +kernel
theorem d_S_fill_29 : decode cc_S_fill 29 = .ok (.aload_n 0, 1) := by decide +kernel
theorem d_S_fill_30 : decode cc_S_fill 30 = .ok (.dup, 1) := by decide +kernel
theorem d_S_fill_31 : decode cc_S_fill 31 = .ok (.getfield 25, 3) := by decide +kernel
theorem d_S_fill_34 : decode cc_S_fill 34 = .ok (.lconst 1, 1) := by decide +kernel
theorem d_S_fill_35 : decode cc_S_fill 35 = .ok (.aload_n 1, 1) := by decide +kernel
theorem d_S_fill_36 : decode cc_S_fill 36 = .ok (.iload_n 3, 1) := by decide +kernel
theorem d_S_fill_37 : decode cc_S_fill 37 = .ok (.iaload, 1) := by decide +kernel
theorem d_S_fill_38 : decode cc_S_fill 38 = .ok (.lshl, 1) := by decide +kernel
theorem d_S_fill_39 : decode cc_S_fill 39 = .ok (.lor, 1) := by decide +kernel
theorem d_S_fill_40 : decode cc_S_fill 40 = .ok (.putfield 25, 3) := by decide +kernel
theorem d_S_fill_43 : decode cc_S_fill 43 = .ok (.iinc 3 1, 3) := by decide +kernel
theorem d_S_fill_46 : decode cc_S_fill 46 = .ok (.goto (-34), 3) := by decide +kernel
theorem d_S_fill_49 : decode cc_S_fill 49 = .ok (.return_, 1) := by decide +kernel
def L_S_fill_12 (Q : St → Prop) : Nat → Int32 → St → Prop
  | 0, _, _ => False
  | n + 1, v3, z0 => (((z0.1 26 5) ≤ v3) → Q z0) ∧ ((¬ (z0.1 26 5) ≤ v3) → vp_in v3 8 ∧ vp_in v3 8 ∧ ∀ z2 : St, z2 = wI z0 27 v3.toNatClampNeg (z0.1 30 v3.toNatClampNeg) → vp_in v3 8 ∧ ∀ z3 : St, z3 = wL z2 26 6 ((z2.2 26 6) ||| ((1 : Int64) <<< ((z2.1 30 v3.toNatClampNeg).toInt64 &&& 63))) → ∀ x4 : Int32, x4 = v3 + 1 → L_S_fill_12 Q n x4 z3)
def P_S_fill (a2 : Int32) (z0 : St) (Q : St → Prop) : Prop := ∀ z1 : St, z1 = wI z0 26 5 (mminI a2 (8 : Int32)) → ∃ k12 : Nat, L_S_fill_12 Q k12 (0 : Int32) z1
set_option maxHeartbeats 4000000 in
set_option maxRecDepth 100000 in
theorem wL_S_fill_12 {Q : St → Prop} (E : En p l s m meth c args cc_S_fill 4 R_S none G) :
    ∀ (n : Nat) (v3 : Int32) (z0 : St) (ls : Array Slot) (H : Heap) (locs : List Loc), L_S_fill_12 Q n v3 z0 → lv_has ls 4 [(0, .ref (ha G 26)), (1, .ref (ha G 30)), (3, .int v3)] → Wd G z0 s.heap H locs → W p l e rm_S_fill s m args below meth c H locs 0 0 (MQ below (QvR Q G) args s 0 0 (fr G)) (F0 m 12 ls []) := by
  obtain ⟨hx, hb, hml, hown, hr, hlk, hex, hE⟩ := id E
  intro n
  induction n with
  | zero => exact fun _ _ _ _ _ hP _ _ => hP.elim
  | succ n ih =>
    intro v3 z0 ls H locs hP hl hW
    refine lv_iload_n hx hb d_S_fill_12 rfl (lv_at hl 2 rfl) ?_
    refine lv_aload_n hx hb d_S_fill_13 rfl (lv_at hl 0 rfl) ?_
    refine ygf_26_5 hx hb hown hE hW (lk_S_21 hE) d_S_fill_14 ?_
    refine lv_icmp_ge (tgt := 49) hx hb d_S_fill_17 rfl (fun hc => ?_) (fun hc => ?_)
    · have hP := hP.1 hc
      exact yr_v hx hb hr hlk hW hP d_S_fill_49
    · have hP := hP.2 hc
      refine lv_aload_n hx hb d_S_fill_20 rfl (lv_at hl 0 rfl) ?_
      refine ygf_26_2 hx hb hown hE hW (lk_S_9 hE) d_S_fill_21 ?_
      refine lv_iload_n hx hb d_S_fill_24 rfl (lv_at hl 2 rfl) ?_
      refine lv_aload_n hx hb d_S_fill_25 rfl (lv_at hl 1 rfl) ?_
      refine lv_iload_n hx hb d_S_fill_26 rfl (lv_at hl 2 rfl) ?_
      refine ya_30 hx hb hE hW hP.1 d_S_fill_27 ?_
      have hP := hP.2
      refine ys_27 hx hb hE hW hP.1 d_S_fill_28 (fun z2 H locs e_z2 hW => ?_)
      have hP := hP.2
      have hP := hP z2 e_z2
      refine lv_aload_n hx hb d_S_fill_29 rfl (lv_at hl 0 rfl) ?_
      refine lv_dup hx hb d_S_fill_30 rfl ?_
      refine ygf_26_6 hx hb hown hE hW (lk_S_25 hE) d_S_fill_31 ?_
      refine lv_lconst (v := 1) hx hb d_S_fill_34 (by decide) ?_
      refine lv_aload_n hx hb d_S_fill_35 rfl (lv_at hl 1 rfl) ?_
      refine lv_iload_n hx hb d_S_fill_36 rfl (lv_at hl 2 rfl) ?_
      refine ya_30 hx hb hE hW hP.1 d_S_fill_37 ?_
      have hP := hP.2
      refine lv_lshl hx hb d_S_fill_38 rfl ?_
      refine lv_lor hx hb d_S_fill_39 ?_
      refine ypf_26_6 hx hb hown hE hW (lk_S_25 hE) d_S_fill_40 (fun z3 H locs e_z3 hW => ?_)
      have hP := hP z3 e_z3
      obtain ⟨x4, e_x4⟩ : ∃ z : Int32, z = v3 + 1 := ⟨_, rfl⟩
      have hP := hP x4 e_x4
      refine lv_iinc (k := 2) (lv' := [(3, .int x4), (0, .ref (ha G 26)), (1, .ref (ha G 30))]) hx hb d_S_fill_43 hl rfl (ii_p1 e_x4) (by decide) rfl (fun ls hl => ?_)
      refine lv_goto (tgt := 12) hx hb d_S_fill_46 rfl ?_
      exact ih _ _ _ _ _ hP (lv_sub hl [1, 2, 0] rfl) hW
set_option maxHeartbeats 4000000 in
set_option maxRecDepth 100000 in
theorem c_S_fill {l : Launch} {G : GG} (a2 : Int32) (z0 : St) (Q : St → Prop) (hP : P_S_fill a2 z0 Q) : Ctv l y_S_fill cc_S_fill 4 none rm_S_fill G [.ref (ha G 26), .ref (ha G 30), .int a2] z0 Q := by
  refine Ctv.op (own := R_S) (by decide) rfl (Nat.le_of_ble_eq_true rfl) (fun p e s m args below meth c ls E hl hW => ?_)
  obtain ⟨hx, hb, hml, hown, hr, hlk, hex, hE⟩ := id E
  have hl : lv_has ls 4 [(0, .ref (ha G 26)), (1, .ref (ha G 30)), (2, .int a2)] := hl
  refine lv_aload_n hx hb d_S_fill_0 rfl (lv_at hl 0 rfl) ?_
  refine lv_iload_n hx hb d_S_fill_1 rfl (lv_at hl 2 rfl) ?_
  refine lv_bipush (v := 8) hx hb d_S_fill_2 (by decide) ?_
  refine ym_minI (rest := [.ref (ha G 26)]) hx hb (hml.trans hl.1.symm) hown hE (lk_S_43 hE) (by decide) rfl d_S_fill_4 ?_
  refine ypf_26_5 hx hb hown hE hW (lk_S_21 hE) d_S_fill_7 (fun z1 H locs e_z1 hW => ?_)
  have hP := hP z1 e_z1
  refine lv_iconst (v := 0) hx hb d_S_fill_10 (by decide) ?_
  refine lv_istore_n (lv' := [(3, .int (0 : Int32)), (0, .ref (ha G 26)), (1, .ref (ha G 30)), (2, .int a2)]) hx hb d_S_fill_11 rfl hl (by decide) rfl (fun ls hl => ?_)
  obtain ⟨n2, hP⟩ := hP
  refine wL_S_fill_12 E n2 _ _ _ _ _ hP (lv_sub hl [1, 2, 0] rfl) hW
theorem d_O_draw_0 : decode cc_O_draw 0 = .ok (.aload_n 0, 1) := by decide +kernel
theorem d_O_draw_1 : decode cc_O_draw 1 = .ok (.invokevirtual 94, 3) := by decide +kernel
theorem d_O_draw_4 : decode cc_O_draw 4 = .ok (.aload_n 0, 1) := by decide +kernel
theorem d_O_draw_5 : decode cc_O_draw 5 = .ok (.invokevirtual 239, 3) := by decide +kernel
theorem d_O_draw_8 : decode cc_O_draw 8 = .ok (.aload_n 0, 1) := by decide +kernel
theorem d_O_draw_9 : decode cc_O_draw 9 = .ok (.getfield 37, 3) := by decide +kernel
theorem d_O_draw_12 : decode cc_O_draw 12 = .ok (.aload_n 0, 1) := by decide +kernel
theorem d_O_draw_13 : decode cc_O_draw 13 = .ok (.getfield 51, 3) := by decide +kernel
theorem d_O_draw_16 : decode cc_O_draw 16 = .ok (.invokevirtual 236, 3) := by decide +kernel
theorem d_O_draw_19 : decode cc_O_draw 19 = .ok (.aload_n 0, 1) := by decide +kernel
theorem d_O_draw_20 : decode cc_O_draw 20 = .ok (.getfield 64, 3) := by decide +kernel
theorem d_O_draw_23 : decode cc_O_draw 23 = .ok (.invokevirtual 190, 3) := by decide +kernel
theorem d_O_draw_26 : decode cc_O_draw 26 = .ok (.aload_n 0, 1) := by decide +kernel
theorem d_O_draw_27 : decode cc_O_draw 27 = .ok (.getfield 60, 3) := by decide +kernel
theorem d_O_draw_30 : decode cc_O_draw 30 = .ok (.aload_n 0, 1) := by decide +kernel
theorem d_O_draw_31 : decode cc_O_draw 31 = .ok (.getfield 64, 3) := by decide +kernel
theorem d_O_draw_34 : decode cc_O_draw 34 = .ok (.aload_n 0, 1) := by decide +kernel
theorem d_O_draw_35 : decode cc_O_draw 35 = .ok (.getfield 68, 3) := by decide +kernel
theorem d_O_draw_38 : decode cc_O_draw 38 = .ok (.invokevirtual 242, 3) := by decide +kernel
theorem d_O_draw_41 : decode cc_O_draw 41 = .ok (.aload_n 0, 1) := by decide +kernel
theorem d_O_draw_42 : decode cc_O_draw 42 = .ok (.getfield 51, 3) := by decide +kernel
theorem d_O_draw_45 : decode cc_O_draw 45 = .ok (.invokevirtual 246, 3) := by decide +kernel
theorem d_O_draw_48 : decode cc_O_draw 48 = .ok (.return_, 1) := by decide +kernel
def P_O_draw (z0 : St) (Q : St → Prop) (X : Nat → St → Prop) : Prop := P_O_requireOpen z0 (fun (z1 : St) => P_O_requireNumber z1 (fun (z2 : St) => P_D_made z2 (fun (x4 : Int64) (z3 : St) => P_R_tell x4 z3 (fun (z5 : St) => P_S_fill (z5.1 0 8) z5 (fun (z6 : St) => P_D_end z6 (fun (z7 : St) => Q z7))))) X) X
set_option maxHeartbeats 4000000 in
set_option maxRecDepth 100000 in
theorem c_O_draw {l : Launch} {G : GG} (z0 : St) (Q : St → Prop) (X : Nat → St → Prop) (hP : P_O_draw z0 Q X) : CtvX l y_O_draw cc_O_draw 1 none rm_O_draw G [.ref (ha G 0)] z0 Q X := by
  refine CtvX.op (own := R_O) (by decide) rfl (Nat.le_of_ble_eq_true rfl) (fun p e s m args below meth c ls E hl hW => ?_)
  obtain ⟨hx, hb, hml, hown, hr, hlk, hex, hE⟩ := id E
  have hl : lv_has ls 1 [(0, .ref (ha G 0))] := hl
  refine lv_aload_n hx hb d_O_draw_0 rfl (lv_at hl 0 rfl) ?_
  refine yx_v (yVX (As := []) (rest := []) E (c_O_requireOpen _ _ _ hP) (cw_O_94 hE) (yrv_0 hE hW) (by decide) hW hl.1 rfl rfl rfl d_O_draw_1) hW (fun z1 H locs hP hW => ?_) hlk hex (fun _ _ h1 h2 => Or.inr ⟨h1, h2⟩)
  refine lv_aload_n hx hb d_O_draw_4 rfl (lv_at hl 0 rfl) ?_
  refine yx_v (yVX (As := []) (rest := []) E (c_O_requireNumber _ _ _ hP) (cw_O_239 hE) (yrv_0 hE hW) (by decide) hW hl.1 rfl rfl rfl d_O_draw_5) hW (fun z2 H locs hP hW => ?_) hlk hex (fun _ _ h1 h2 => Or.inr ⟨h1, h2⟩)
  refine lv_aload_n hx hb d_O_draw_8 rfl (lv_at hl 0 rfl) ?_
  refine ygf_0_3 hx hb hown hE hW (lk_O_37 hE) d_O_draw_9 ?_
  refine lv_aload_n hx hb d_O_draw_12 rfl (lv_at hl 0 rfl) ?_
  refine ygf_0_5 hx hb hown hE hW (lk_O_51 hE) d_O_draw_13 ?_
  refine yc_l (yV (As := []) (rest := [.ref (ha G 19)]) E (c_D_made _ _ hP) (cw_O_236 hE) (yrv_25 hE hW) (by decide) hW hl.1 rfl rfl rfl d_O_draw_16) hW (fun x4 z3 H locs hP hW => ?_)
  refine lv_aload_n hx hb d_O_draw_19 rfl (lv_at hl 0 rfl) ?_
  refine ygf_0_7 hx hb hown hE hW (lk_O_64 hE) d_O_draw_20 ?_
  refine yc_v (yV (As := [.long x4, .ref (ha G 30)]) (rest := []) E (c_R_tell _ _ _ hP) (cw_O_190 hE) (yrv_19 hE hW) (by decide) hW hl.1 rfl rfl rfl d_O_draw_23) hW (fun z5 H locs hP hW => ?_)
  refine lv_aload_n hx hb d_O_draw_26 rfl (lv_at hl 0 rfl) ?_
  refine ygf_0_6 hx hb hown hE hW (lk_O_60 hE) d_O_draw_27 ?_
  refine lv_aload_n hx hb d_O_draw_30 rfl (lv_at hl 0 rfl) ?_
  refine ygf_0_7 hx hb hown hE hW (lk_O_64 hE) d_O_draw_31 ?_
  refine lv_aload_n hx hb d_O_draw_34 rfl (lv_at hl 0 rfl) ?_
  refine ygf_0_8 hx hb hown hE hW (lk_O_68 hE) d_O_draw_35 ?_
  refine yc_v (yV (As := [.ref (ha G 30), .int (z5.1 0 8)]) (rest := []) E (c_S_fill _ _ _ hP) (cw_O_242 hE) (yrv_26 hE hW) (by decide) hW hl.1 rfl rfl rfl d_O_draw_38) hW (fun z6 H locs hP hW => ?_)
  refine lv_aload_n hx hb d_O_draw_41 rfl (lv_at hl 0 rfl) ?_
  refine ygf_0_5 hx hb hown hE hW (lk_O_51 hE) d_O_draw_42 ?_
  refine yc_v (yV (As := []) (rest := []) E (c_D_end _ _ hP) (cw_O_246 hE) (yrv_25 hE hW) (by decide) hW hl.1 rfl rfl rfl d_O_draw_45) hW (fun z7 H locs hP hW => ?_)
  exact yr_vX hx hb hr hlk hW hP d_O_draw_48
theorem d_O_requireDrawn_0 : decode cc_O_requireDrawn 0 = .ok (.aload_n 0, 1) := by decide +kernel
theorem d_O_requireDrawn_1 : decode cc_O_requireDrawn 1 = .ok (.getfield 60, 3) := by decide +kernel
theorem d_O_requireDrawn_4 : decode cc_O_requireDrawn 4 = .ok (.invokevirtual 291, 3) := by decide +kernel
theorem d_O_requireDrawn_7 : decode cc_O_requireDrawn 7 = .ok (.ifCond .ne 14, 3) := by decide +kernel
theorem d_O_requireDrawn_10 : decode cc_O_requireDrawn 10 = .ok (.new 117, 3) := by decide +kernel
theorem d_O_requireDrawn_13 : decode cc_O_requireDrawn 13 = .ok (.dup, 1) := by decide +kernel
theorem d_O_requireDrawn_14 : decode cc_O_requireDrawn 14 = .ok (.ldc_w 296, 3) := by decide +kernel
theorem d_O_requireDrawn_17 : decode cc_O_requireDrawn 17 = .ok (.invokespecial 121, 3) := by decide +kernel
theorem d_O_requireDrawn_20 : decode cc_O_requireDrawn 20 = .ok (.athrow, 1) := by decide +kernel
theorem d_O_requireDrawn_21 : decode cc_O_requireDrawn 21 = .ok (.return_, 1) := by decide +kernel
def P_O_requireDrawn (z0 : St) (Q : St → Prop) (X : Nat → St → Prop) : Prop := P_S_areDrawn z0 (fun (x2 : Int32) (z1 : St) => ((¬ x2 = 0) → Q z1) ∧ ((x2 = 0) → X 1 z1))
set_option maxHeartbeats 4000000 in
set_option maxRecDepth 100000 in
theorem c_O_requireDrawn {l : Launch} {G : GG} (z0 : St) (Q : St → Prop) (X : Nat → St → Prop) (hP : P_O_requireDrawn z0 Q X) : CtvX l y_O_requireDrawn cc_O_requireDrawn 1 none rm_O_requireDrawn G [.ref (ha G 0)] z0 Q X := by
  refine CtvX.op (own := R_O) (by decide) rfl (Nat.le_of_ble_eq_true rfl) (fun p e s m args below meth c ls E hl hW => ?_)
  obtain ⟨hx, hb, hml, hown, hr, hlk, hex, hE⟩ := id E
  have hl : lv_has ls 1 [(0, .ref (ha G 0))] := hl
  refine lv_aload_n hx hb d_O_requireDrawn_0 rfl (lv_at hl 0 rfl) ?_
  refine ygf_0_6 hx hb hown hE hW (lk_O_60 hE) d_O_requireDrawn_1 ?_
  refine yc_i (yV (As := []) (rest := []) E (c_S_areDrawn _ _ hP) (cw_O_291 hE) (yrv_26 hE hW) (by decide) hW hl.1 rfl rfl rfl d_O_requireDrawn_4) hW (fun x2 z1 H locs hP hW => ?_)
  refine lv_if_ne (tgt := 21) hx hb d_O_requireDrawn_7 rfl (fun hc => ?_) (fun hc => ?_)
  · have hP := hP.1 hc
    exact yr_vX hx hb hr hlk hW hP d_O_requireDrawn_21
  · have hP := hP.2 hc
    exact yt (k := 1) hx hb hown hlk hex hE hW hl.1 hml (by decide) (by decide) (fun _ h => lt_O_1_296 h) d_O_requireDrawn_10 d_O_requireDrawn_13 (Or.inr ⟨d_O_requireDrawn_14, rfl⟩) d_O_requireDrawn_17 d_O_requireDrawn_20 hP (fun _ _ h1 h2 => Or.inr ⟨h1, h2⟩)
theorem d_S_at_0 : decode cc_S_at 0 = .ok (.aload_n 0, 1) := by decide +kernel
theorem d_S_at_1 : decode cc_S_at 1 = .ok (.getfield 9, 3) := by decide +kernel
theorem d_S_at_4 : decode cc_S_at 4 = .ok (.iload_n 1, 1) := by decide +kernel
theorem d_S_at_5 : decode cc_S_at 5 = .ok (.iaload, 1) := by decide +kernel
theorem d_S_at_6 : decode cc_S_at 6 = .ok (.ireturn, 1) := by decide +kernel
def P_S_at (a1 : Int32) (z0 : St) (Q : Int32 → St → Prop) : Prop := vp_in a1 8 ∧ Q (z0.1 27 a1.toNatClampNeg) z0
set_option maxHeartbeats 4000000 in
set_option maxRecDepth 100000 in
theorem c_S_at {l : Launch} {G : GG} (a1 : Int32) (z0 : St) (Q : Int32 → St → Prop) (hP : P_S_at a1 z0 Q) : Cti l y_S_at cc_S_at 2 (some .int) rm_S_at G [.ref (ha G 26), .int a1] z0 Q := by
  refine Cti.op (own := R_S) (by decide) rfl (Nat.le_of_ble_eq_true rfl) (fun p e s m args below meth c ls E hl hW => ?_)
  obtain ⟨hx, hb, hml, hown, hr, hlk, hex, hE⟩ := id E
  have hl : lv_has ls 2 [(0, .ref (ha G 26)), (1, .int a1)] := hl
  refine lv_aload_n hx hb d_S_at_0 rfl (lv_at hl 0 rfl) ?_
  refine ygf_26_2 hx hb hown hE hW (lk_S_9 hE) d_S_at_1 ?_
  refine lv_iload_n hx hb d_S_at_4 rfl (lv_at hl 1 rfl) ?_
  refine ya_27 hx hb hE hW hP.1 d_S_at_5 ?_
  have hP := hP.2
  exact yr_i hx hb hr hlk hW hP d_S_at_6
theorem d_O_member_0 : decode cc_O_member 0 = .ok (.aload_n 0, 1) := by decide +kernel
theorem d_O_member_1 : decode cc_O_member 1 = .ok (.invokevirtual 249, 3) := by decide +kernel
theorem d_O_member_4 : decode cc_O_member 4 = .ok (.aload_n 0, 1) := by decide +kernel
theorem d_O_member_5 : decode cc_O_member 5 = .ok (.iload_n 1, 1) := by decide +kernel
theorem d_O_member_6 : decode cc_O_member 6 = .ok (.invokevirtual 185, 3) := by decide +kernel
theorem d_O_member_9 : decode cc_O_member 9 = .ok (.aload_n 0, 1) := by decide +kernel
theorem d_O_member_10 : decode cc_O_member 10 = .ok (.getfield 60, 3) := by decide +kernel
theorem d_O_member_13 : decode cc_O_member 13 = .ok (.iload_n 1, 1) := by decide +kernel
theorem d_O_member_14 : decode cc_O_member 14 = .ok (.invokevirtual 252, 3) := by decide +kernel
theorem d_O_member_17 : decode cc_O_member 17 = .ok (.ireturn, 1) := by decide +kernel
def P_O_member (a1 : Int32) (z0 : St) (Q : Int32 → St → Prop) (X : Nat → St → Prop) : Prop := P_O_requireDrawn z0 (fun (z1 : St) => P_O_requirePlace a1 z1 (fun (z2 : St) => P_S_at a1 z2 (fun (x4 : Int32) (z3 : St) => Q x4 z3)) X) X
set_option maxHeartbeats 4000000 in
set_option maxRecDepth 100000 in
theorem c_O_member {l : Launch} {G : GG} (a1 : Int32) (z0 : St) (Q : Int32 → St → Prop) (X : Nat → St → Prop) (hP : P_O_member a1 z0 Q X) : CtiX l y_O_member cc_O_member 2 (some .int) rm_O_member G [.ref (ha G 0), .int a1] z0 Q X := by
  refine CtiX.op (own := R_O) (by decide) rfl (Nat.le_of_ble_eq_true rfl) (fun p e s m args below meth c ls E hl hW => ?_)
  obtain ⟨hx, hb, hml, hown, hr, hlk, hex, hE⟩ := id E
  have hl : lv_has ls 2 [(0, .ref (ha G 0)), (1, .int a1)] := hl
  refine lv_aload_n hx hb d_O_member_0 rfl (lv_at hl 0 rfl) ?_
  refine yx_v (yVX (As := []) (rest := []) E (c_O_requireDrawn _ _ _ hP) (cw_O_249 hE) (yrv_0 hE hW) (by decide) hW hl.1 rfl rfl rfl d_O_member_1) hW (fun z1 H locs hP hW => ?_) hlk hex (fun _ _ h1 h2 => Or.inr ⟨h1, h2⟩)
  refine lv_aload_n hx hb d_O_member_4 rfl (lv_at hl 0 rfl) ?_
  refine lv_iload_n hx hb d_O_member_5 rfl (lv_at hl 1 rfl) ?_
  refine yx_v (yVX (As := [.int a1]) (rest := []) E (c_O_requirePlace _ _ _ _ hP) (cw_O_185 hE) (yrv_0 hE hW) (by decide) hW hl.1 rfl rfl rfl d_O_member_6) hW (fun z2 H locs hP hW => ?_) hlk hex (fun _ _ h1 h2 => Or.inr ⟨h1, h2⟩)
  refine lv_aload_n hx hb d_O_member_9 rfl (lv_at hl 0 rfl) ?_
  refine ygf_0_6 hx hb hown hE hW (lk_O_60 hE) d_O_member_10 ?_
  refine lv_iload_n hx hb d_O_member_13 rfl (lv_at hl 1 rfl) ?_
  refine yc_i (yV (As := [.int a1]) (rest := []) E (c_S_at _ _ _ hP) (cw_O_252 hE) (yrv_26 hE hW) (by decide) hW hl.1 rfl rfl rfl d_O_member_14) hW (fun x4 z3 H locs hP hW => ?_)
  exact yr_iX hx hb hr hlk hW hP d_O_member_17
theorem d_S_isMember_0 : decode cc_S_isMember 0 = .ok (.iload_n 1, 1) := by decide +kernel
theorem d_S_isMember_1 : decode cc_S_isMember 1 = .ok (.ifCond .lt 29, 3) := by decide +kernel
theorem d_S_isMember_4 : decode cc_S_isMember 4 = .ok (.iload_n 1, 1) := by decide +kernel
theorem d_S_isMember_5 : decode cc_S_isMember 5 = .ok (.aload_n 0, 1) := by decide +kernel
theorem d_S_isMember_6 : decode cc_S_isMember 6 = .ok (.getfield 35, 3) := by decide +kernel
theorem d_S_isMember_9 : decode cc_S_isMember 9 = .ok (.getfield 49, 3) := by decide +kernel
theorem d_S_isMember_12 : decode cc_S_isMember 12 = .ok (.if_icmp .ge 18, 3) := by decide +kernel
theorem d_S_isMember_15 : decode cc_S_isMember 15 = .ok (.aload_n 0, 1) := by decide +kernel
theorem d_S_isMember_16 : decode cc_S_isMember 16 = .ok (.getfield 25, 3) := by decide +kernel
theorem d_S_isMember_19 : decode cc_S_isMember 19 = .ok (.iload_n 1, 1) := by decide +kernel
theorem d_S_isMember_20 : decode cc_S_isMember 20 = .ok (.invokestatic 54, 3) := by decide +kernel
theorem d_S_isMember_23 : decode cc_S_isMember 23 = .ok (.ifCond .eq 7, 3) := by decide +kernel
theorem d_S_isMember_26 : decode cc_S_isMember 26 = .ok (.iconst 1, 1) := by decide +kernel
theorem d_S_isMember_27 : decode cc_S_isMember 27 = .ok (.goto 4, 3) := by decide +kernel
theorem d_S_isMember_30 : decode cc_S_isMember 30 = .ok (.iconst 0, 1) := by decide +kernel
theorem d_S_isMember_31 : decode cc_S_isMember 31 = .ok (.ireturn, 1) := by decide +kernel
def P_S_isMember (a1 : Int32) (z0 : St) (Q : Int32 → St → Prop) : Prop := ((a1 < 0) → Q (0 : Int32) z0) ∧ ((¬ a1 < 0) → (((z0.1 1 4) ≤ a1) → Q (0 : Int32) z0) ∧ ((¬ (z0.1 1 4) ≤ a1) → P_O_isIn (z0.2 26 6) a1 z0 (fun (x2 : Int32) (z1 : St) => ((x2 = 0) → Q (0 : Int32) z1) ∧ ((¬ x2 = 0) → Q (1 : Int32) z1))))
set_option maxHeartbeats 4000000 in
set_option maxRecDepth 100000 in
theorem c_S_isMember {l : Launch} {G : GG} (a1 : Int32) (z0 : St) (Q : Int32 → St → Prop) (hP : P_S_isMember a1 z0 Q) : Cti l y_S_isMember cc_S_isMember 2 (some .boolean) rm_S_isMember G [.ref (ha G 26), .int a1] z0 Q := by
  refine Cti.op (own := R_S) (by decide) rfl (Nat.le_of_ble_eq_true rfl) (fun p e s m args below meth c ls E hl hW => ?_)
  obtain ⟨hx, hb, hml, hown, hr, hlk, hex, hE⟩ := id E
  have hl : lv_has ls 2 [(0, .ref (ha G 26)), (1, .int a1)] := hl
  refine lv_iload_n hx hb d_S_isMember_0 rfl (lv_at hl 1 rfl) ?_
  refine lv_if_lt (tgt := 30) hx hb d_S_isMember_1 rfl (fun hc => ?_) (fun hc => ?_)
  · have hP := hP.1 hc
    refine lv_iconst (v := 0) hx hb d_S_isMember_30 (by decide) ?_
    exact yr_z hx hb hr hlk hW zb_0 hP d_S_isMember_31
  · have hP := hP.2 hc
    refine lv_iload_n hx hb d_S_isMember_4 rfl (lv_at hl 1 rfl) ?_
    refine lv_aload_n hx hb d_S_isMember_5 rfl (lv_at hl 0 rfl) ?_
    refine ygf_26_0 hx hb hown hE hW (lk_S_35 hE) d_S_isMember_6 ?_
    refine ygn_1_4 hx hb hown hE hW (lk_S_49 hE) d_S_isMember_9 ?_
    refine lv_icmp_ge (tgt := 30) hx hb d_S_isMember_12 rfl (fun hc => ?_) (fun hc => ?_)
    · have hP := hP.1 hc
      refine lv_iconst (v := 0) hx hb d_S_isMember_30 (by decide) ?_
      exact yr_z hx hb hr hlk hW zb_0 hP d_S_isMember_31
    · have hP := hP.2 hc
      refine lv_aload_n hx hb d_S_isMember_15 rfl (lv_at hl 0 rfl) ?_
      refine ygf_26_6 hx hb hown hE hW (lk_S_25 hE) d_S_isMember_16 ?_
      refine lv_iload_n hx hb d_S_isMember_19 rfl (lv_at hl 1 rfl) ?_
      refine yc_i (ySN (As := [.long (z0.2 26 6), .int a1]) (rest := []) E (c_O_isIn _ _ _ _ hP) (cw_S_54 hE) (by decide) hW hl.1 rfl rfl rfl d_S_isMember_20) hW (fun x2 z1 H locs hP hW => ?_)
      refine lv_if_eq (tgt := 30) hx hb d_S_isMember_23 rfl (fun hc => ?_) (fun hc => ?_)
      · have hP := hP.1 hc
        refine lv_iconst (v := 0) hx hb d_S_isMember_30 (by decide) ?_
        exact yr_z hx hb hr hlk hW zb_0 hP d_S_isMember_31
      · have hP := hP.2 hc
        refine lv_iconst (v := 1) hx hb d_S_isMember_26 (by decide) ?_
        refine lv_goto (tgt := 31) hx hb d_S_isMember_27 rfl ?_
        exact yr_z hx hb hr hlk hW zb_1 hP d_S_isMember_31
theorem d_S_vacate_0 : decode cc_S_vacate 0 = .ok (.iconst 0, 1) := by decide +kernel
theorem d_S_vacate_1 : decode cc_S_vacate 1 = .ok (.istore_n 2, 1) := by decide +kernel
theorem d_S_vacate_2 : decode cc_S_vacate 2 = .ok (.iload_n 2, 1) := by decide +kernel
theorem d_S_vacate_3 : decode cc_S_vacate 3 = .ok (.aload_n 0, 1) := by decide +kernel
theorem d_S_vacate_4 : decode cc_S_vacate 4 = .ok (.getfield 21, 3) := by decide +kernel
theorem d_S_vacate_7 : decode cc_S_vacate 7 = .ok (.if_icmp .ge 31, 3) := by decide +kernel
theorem d_S_vacate_10 : decode cc_S_vacate 10 = .ok (.aload_n 0, 1) := by decide +kernel
theorem d_S_vacate_11 : decode cc_S_vacate 11 = .ok (.getfield 9, 3) := by decide +kernel
theorem d_S_vacate_14 : decode cc_S_vacate 14 = .ok (.iload_n 2, 1) := by decide +kernel
theorem d_S_vacate_15 : decode cc_S_vacate 15 = .ok (.iaload, 1) := by decide +kernel
theorem d_S_vacate_16 : decode cc_S_vacate 16 = .ok (.iload_n 1, 1) := by decide +kernel
theorem d_S_vacate_17 : decode cc_S_vacate 17 = .ok (.if_icmp .ne 15, 3) := by decide +kernel
theorem d_S_vacate_20 : decode cc_S_vacate 20 = .ok (.aload_n 0, 1) := by decide +kernel
theorem d_S_vacate_21 : decode cc_S_vacate 21 = .ok (.getfield 9, 3) := by decide +kernel
theorem d_S_vacate_24 : decode cc_S_vacate 24 = .ok (.iload_n 2, 1) := by decide +kernel
theorem d_S_vacate_25 : decode cc_S_vacate 25 = .ok (.iconst (-1), 1) := by decide +kernel
theorem d_S_vacate_26 : decode cc_S_vacate 26 = .ok (.iastore, 1) := by decide +kernel
theorem d_S_vacate_27 : decode cc_S_vacate 27 = .ok (.aload_n 0, 1) := by decide +kernel
theorem d_S_vacate_28 : decode cc_S_vacate 28 = .ok (.iload_n 2, 1) := by decide +kernel
theorem d_S_vacate_29 : decode cc_S_vacate 29 = .ok (.putfield 32, 3) := by decide +kernel
theorem d_S_vacate_32 : decode cc_S_vacate 32 = .ok (.iinc 2 1, 3) := by decide +kernel
theorem d_S_vacate_35 : decode cc_S_vacate 35 = .ok (.goto (-33), 3) := by decide +kernel
theorem d_S_vacate_38 : decode cc_S_vacate 38 = .ok (.aload_n 0, 1) := by decide +kernel
theorem d_S_vacate_39 : decode cc_S_vacate 39 = .ok (.dup, 1) := by decide +kernel
theorem d_S_vacate_40 : decode cc_S_vacate 40 = .ok (.getfield 25, 3) := by decide +kernel
theorem d_S_vacate_43 : decode cc_S_vacate 43 = .ok (.lconst 1, 1) := by decide +kernel
theorem d_S_vacate_44 : decode cc_S_vacate 44 = .ok (.iload_n 1, 1) := by decide +kernel
theorem d_S_vacate_45 : decode cc_S_vacate 45 = .ok (.lshl, 1) := by decide +kernel
theorem d_S_vacate_46 : decode cc_S_vacate 46 = .ok (.ldc2_w 58, 3) := by decide +kernel
theorem d_S_vacate_49 : decode cc_S_vacate 49 = .ok (.lxor, 1) := by decide +kernel
theorem d_S_vacate_50 : decode cc_S_vacate 50 = .ok (.land, 1) := by decide +kernel
theorem d_S_vacate_51 : decode cc_S_vacate 51 = .ok (.putfield 25, 3) := by decide +kernel
theorem d_S_vacate_54 : decode cc_S_vacate 54 = .ok (.aload_n 0, 1) := by decide +kernel
theorem d_S_vacate_55 : decode cc_S_vacate 55 = .ok (.dup, 1) := by decide +kernel
theorem d_S_vacate_56 : decode cc_S_vacate 56 = .ok (.getfield 29, 3) := by decide +kernel
theorem d_S_vacate_59 : decode cc_S_vacate 59 = .ok (.lconst 1, 1) := by decide +kernel
theorem d_S_vacate_60 : decode cc_S_vacate 60 = .ok (.iload_n 1, 1) := by decide +kernel
theorem d_S_vacate_61 : decode cc_S_vacate 61 = .ok (.lshl, 1) := by decide +kernel
theorem d_S_vacate_62 : decode cc_S_vacate 62 = .ok (.lor, 1) := by decide +kernel
theorem d_S_vacate_63 : decode cc_S_vacate 63 = .ok (.putfield 29, 3) := by decide +kernel
theorem d_S_vacate_66 : decode cc_S_vacate 66 = .ok (.return_, 1) := by decide +kernel
def L_S_vacate_2 (K38 : Int32 → St → Prop) (Q : St → Prop) : Nat → Int32 → Int32 → St → Prop
  | 0, _, _, _ => False
  | n + 1, v1, v2, z0 => (((z0.1 26 5) ≤ v2) → K38 v1 z0) ∧ ((¬ (z0.1 26 5) ≤ v2) → vp_in v2 8 ∧ ((¬ (z0.1 27 v2.toNatClampNeg) = v1) → ∀ x1 : Int32, x1 = v2 + 1 → L_S_vacate_2 K38 Q n v1 x1 z0) ∧ (((z0.1 27 v2.toNatClampNeg) = v1) → vp_in v2 8 ∧ ∀ z2 : St, z2 = wI z0 27 v2.toNatClampNeg (-1 : Int32) → ∀ z3 : St, z3 = wI z2 26 8 v2 → ∀ x4 : Int32, x4 = v2 + 1 → L_S_vacate_2 K38 Q n v1 x4 z3))
def P_S_vacate (a1 : Int32) (z0 : St) (Q : St → Prop) : Prop := ∃ k2 : Nat, L_S_vacate_2 (fun (x5 : Int32) (z6 : St) => ∀ z7 : St, z7 = wL z6 26 6 ((z6.2 26 6) &&& (((1 : Int64) <<< (x5.toInt64 &&& 63)) ^^^ (-1 : Int64))) → ∀ z8 : St, z8 = wL z7 26 7 ((z7.2 26 7) ||| ((1 : Int64) <<< (x5.toInt64 &&& 63))) → Q z8) Q k2 a1 (0 : Int32) z0
set_option maxHeartbeats 4000000 in
set_option maxRecDepth 100000 in
theorem wL_S_vacate_2 {K38 : Int32 → St → Prop} {Q : St → Prop} (E : En p l s m meth c args cc_S_vacate 3 R_S none G)
    (hK38 : ∀ (v1 : Int32) (z0 : St) (ls : Array Slot) (H : Heap) (locs : List Loc), K38 v1 z0 → lv_has ls 3 [(0, .ref (ha G 26)), (1, .int v1)] → Wd G z0 s.heap H locs → W p l e rm_S_vacate s m args below meth c H locs 0 0 (MQ below (QvR Q G) args s 0 0 (fr G)) (F0 m 38 ls [])) :
    ∀ (n : Nat) (v1 : Int32) (v2 : Int32) (z0 : St) (ls : Array Slot) (H : Heap) (locs : List Loc), L_S_vacate_2 K38 Q n v1 v2 z0 → lv_has ls 3 [(0, .ref (ha G 26)), (1, .int v1), (2, .int v2)] → Wd G z0 s.heap H locs → W p l e rm_S_vacate s m args below meth c H locs 0 0 (MQ below (QvR Q G) args s 0 0 (fr G)) (F0 m 2 ls []) := by
  obtain ⟨hx, hb, hml, hown, hr, hlk, hex, hE⟩ := id E
  intro n
  induction n with
  | zero => exact fun _ _ _ _ _ _ hP _ _ => hP.elim
  | succ n ih =>
    intro v1 v2 z0 ls H locs hP hl hW
    refine lv_iload_n hx hb d_S_vacate_2 rfl (lv_at hl 2 rfl) ?_
    refine lv_aload_n hx hb d_S_vacate_3 rfl (lv_at hl 0 rfl) ?_
    refine ygf_26_5 hx hb hown hE hW (lk_S_21 hE) d_S_vacate_4 ?_
    refine lv_icmp_ge (tgt := 38) hx hb d_S_vacate_7 rfl (fun hc => ?_) (fun hc => ?_)
    · have hP := hP.1 hc
      exact hK38 _ _ _ _ _ hP (lv_sub hl [0, 1] rfl) hW
    · have hP := hP.2 hc
      refine lv_aload_n hx hb d_S_vacate_10 rfl (lv_at hl 0 rfl) ?_
      refine ygf_26_2 hx hb hown hE hW (lk_S_9 hE) d_S_vacate_11 ?_
      refine lv_iload_n hx hb d_S_vacate_14 rfl (lv_at hl 2 rfl) ?_
      refine ya_27 hx hb hE hW hP.1 d_S_vacate_15 ?_
      have hP := hP.2
      refine lv_iload_n hx hb d_S_vacate_16 rfl (lv_at hl 1 rfl) ?_
      refine lv_icmp_ne (tgt := 32) hx hb d_S_vacate_17 rfl (fun hc => ?_) (fun hc => ?_)
      · have hP := hP.1 hc
        obtain ⟨x1, e_x1⟩ : ∃ z : Int32, z = v2 + 1 := ⟨_, rfl⟩
        have hP := hP x1 e_x1
        refine lv_iinc (k := 2) (lv' := [(2, .int x1), (0, .ref (ha G 26)), (1, .int v1)]) hx hb d_S_vacate_32 hl rfl (ii_p1 e_x1) (by decide) rfl (fun ls hl => ?_)
        refine lv_goto (tgt := 2) hx hb d_S_vacate_35 rfl ?_
        exact ih _ _ _ _ _ _ hP (lv_sub hl [1, 2, 0] rfl) hW
      · have hP := hP.2 hc
        refine lv_aload_n hx hb d_S_vacate_20 rfl (lv_at hl 0 rfl) ?_
        refine ygf_26_2 hx hb hown hE hW (lk_S_9 hE) d_S_vacate_21 ?_
        refine lv_iload_n hx hb d_S_vacate_24 rfl (lv_at hl 2 rfl) ?_
        refine lv_iconst (v := -1) hx hb d_S_vacate_25 (by decide) ?_
        refine ys_27 hx hb hE hW hP.1 d_S_vacate_26 (fun z2 H locs e_z2 hW => ?_)
        have hP := hP.2
        have hP := hP z2 e_z2
        refine lv_aload_n hx hb d_S_vacate_27 rfl (lv_at hl 0 rfl) ?_
        refine lv_iload_n hx hb d_S_vacate_28 rfl (lv_at hl 2 rfl) ?_
        refine ypf_26_8 hx hb hown hE hW (lk_S_32 hE) d_S_vacate_29 (fun z3 H locs e_z3 hW => ?_)
        have hP := hP z3 e_z3
        obtain ⟨x4, e_x4⟩ : ∃ z : Int32, z = v2 + 1 := ⟨_, rfl⟩
        have hP := hP x4 e_x4
        refine lv_iinc (k := 2) (lv' := [(2, .int x4), (0, .ref (ha G 26)), (1, .int v1)]) hx hb d_S_vacate_32 hl rfl (ii_p1 e_x4) (by decide) rfl (fun ls hl => ?_)
        refine lv_goto (tgt := 2) hx hb d_S_vacate_35 rfl ?_
        exact ih _ _ _ _ _ _ hP (lv_sub hl [1, 2, 0] rfl) hW
set_option maxHeartbeats 4000000 in
set_option maxRecDepth 100000 in
theorem c_S_vacate {l : Launch} {G : GG} (a1 : Int32) (z0 : St) (Q : St → Prop) (hP : P_S_vacate a1 z0 Q) : Ctv l y_S_vacate cc_S_vacate 3 none rm_S_vacate G [.ref (ha G 26), .int a1] z0 Q := by
  refine Ctv.op (own := R_S) (by decide) rfl (Nat.le_of_ble_eq_true rfl) (fun p e s m args below meth c ls E hl hW => ?_)
  obtain ⟨hx, hb, hml, hown, hr, hlk, hex, hE⟩ := id E
  have hl : lv_has ls 3 [(0, .ref (ha G 26)), (1, .int a1)] := hl
  refine lv_iconst (v := 0) hx hb d_S_vacate_0 (by decide) ?_
  refine lv_istore_n (lv' := [(2, .int (0 : Int32)), (0, .ref (ha G 26)), (1, .int a1)]) hx hb d_S_vacate_1 rfl hl (by decide) rfl (fun ls hl => ?_)
  obtain ⟨n2, hP⟩ := hP
  refine wL_S_vacate_2 E ?_ n2 _ _ _ _ _ _ hP (lv_sub hl [1, 2, 0] rfl) hW
  · intro x5 z6 ls H locs hP hl hW
    refine lv_aload_n hx hb d_S_vacate_38 rfl (lv_at hl 0 rfl) ?_
    refine lv_dup hx hb d_S_vacate_39 rfl ?_
    refine ygf_26_6 hx hb hown hE hW (lk_S_25 hE) d_S_vacate_40 ?_
    refine lv_lconst (v := 1) hx hb d_S_vacate_43 (by decide) ?_
    refine lv_iload_n hx hb d_S_vacate_44 rfl (lv_at hl 1 rfl) ?_
    refine lv_lshl hx hb d_S_vacate_45 rfl ?_
    refine lv_ldc2 (v := -1) hx hb hown (lk_S_58 hE) d_S_vacate_46 ?_
    refine lv_lxor hx hb d_S_vacate_49 ?_
    refine lv_land hx hb d_S_vacate_50 ?_
    refine ypf_26_6 hx hb hown hE hW (lk_S_25 hE) d_S_vacate_51 (fun z7 H locs e_z7 hW => ?_)
    have hP := hP z7 e_z7
    refine lv_aload_n hx hb d_S_vacate_54 rfl (lv_at hl 0 rfl) ?_
    refine lv_dup hx hb d_S_vacate_55 rfl ?_
    refine ygf_26_7 hx hb hown hE hW (lk_S_29 hE) d_S_vacate_56 ?_
    refine lv_lconst (v := 1) hx hb d_S_vacate_59 (by decide) ?_
    refine lv_iload_n hx hb d_S_vacate_60 rfl (lv_at hl 1 rfl) ?_
    refine lv_lshl hx hb d_S_vacate_61 rfl ?_
    refine lv_lor hx hb d_S_vacate_62 ?_
    refine ypf_26_7 hx hb hown hE hW (lk_S_29 hE) d_S_vacate_63 (fun z8 H locs e_z8 hW => ?_)
    have hP := hP z8 e_z8
    exact yr_v hx hb hr hlk hW hP d_S_vacate_66
theorem d_O_dropOut_0 : decode cc_O_dropOut 0 = .ok (.aload_n 0, 1) := by decide +kernel
theorem d_O_dropOut_1 : decode cc_O_dropOut 1 = .ok (.invokevirtual 249, 3) := by decide +kernel
theorem d_O_dropOut_4 : decode cc_O_dropOut 4 = .ok (.aload_n 0, 1) := by decide +kernel
theorem d_O_dropOut_5 : decode cc_O_dropOut 5 = .ok (.getfield 60, 3) := by decide +kernel
theorem d_O_dropOut_8 : decode cc_O_dropOut 8 = .ok (.invokevirtual 255, 3) := by decide +kernel
theorem d_O_dropOut_11 : decode cc_O_dropOut 11 = .ok (.ifCond .eq 14, 3) := by decide +kernel
theorem d_O_dropOut_14 : decode cc_O_dropOut 14 = .ok (.new 117, 3) := by decide +kernel
theorem d_O_dropOut_17 : decode cc_O_dropOut 17 = .ok (.dup, 1) := by decide +kernel
theorem d_O_dropOut_18 : decode cc_O_dropOut 18 = .ok (.ldc_w 258, 3) := by decide +kernel
theorem d_O_dropOut_21 : decode cc_O_dropOut 21 = .ok (.invokespecial 121, 3) := by decide +kernel
theorem d_O_dropOut_24 : decode cc_O_dropOut 24 = .ok (.athrow, 1) := by decide +kernel
theorem d_O_dropOut_25 : decode cc_O_dropOut 25 = .ok (.aload_n 0, 1) := by decide +kernel
theorem d_O_dropOut_26 : decode cc_O_dropOut 26 = .ok (.getfield 60, 3) := by decide +kernel
theorem d_O_dropOut_29 : decode cc_O_dropOut 29 = .ok (.iload_n 1, 1) := by decide +kernel
theorem d_O_dropOut_30 : decode cc_O_dropOut 30 = .ok (.invokevirtual 260, 3) := by decide +kernel
theorem d_O_dropOut_33 : decode cc_O_dropOut 33 = .ok (.ifCond .ne 14, 3) := by decide +kernel
theorem d_O_dropOut_36 : decode cc_O_dropOut 36 = .ok (.new 202, 3) := by decide +kernel
theorem d_O_dropOut_39 : decode cc_O_dropOut 39 = .ok (.dup, 1) := by decide +kernel
theorem d_O_dropOut_40 : decode cc_O_dropOut 40 = .ok (.ldc_w 263, 3) := by decide +kernel
theorem d_O_dropOut_43 : decode cc_O_dropOut 43 = .ok (.invokespecial 206, 3) := by decide +kernel
theorem d_O_dropOut_46 : decode cc_O_dropOut 46 = .ok (.athrow, 1) := by decide +kernel
theorem d_O_dropOut_47 : decode cc_O_dropOut 47 = .ok (.aload_n 0, 1) := by decide +kernel
theorem d_O_dropOut_48 : decode cc_O_dropOut 48 = .ok (.getfield 60, 3) := by decide +kernel
theorem d_O_dropOut_51 : decode cc_O_dropOut 51 = .ok (.iload_n 1, 1) := by decide +kernel
theorem d_O_dropOut_52 : decode cc_O_dropOut 52 = .ok (.invokevirtual 265, 3) := by decide +kernel
theorem d_O_dropOut_55 : decode cc_O_dropOut 55 = .ok (.aload_n 0, 1) := by decide +kernel
theorem d_O_dropOut_56 : decode cc_O_dropOut 56 = .ok (.getfield 51, 3) := by decide +kernel
theorem d_O_dropOut_59 : decode cc_O_dropOut 59 = .ok (.invokevirtual 246, 3) := by decide +kernel
theorem d_O_dropOut_62 : decode cc_O_dropOut 62 = .ok (.return_, 1) := by decide +kernel
def P_O_dropOut (a1 : Int32) (z0 : St) (Q : St → Prop) (X : Nat → St → Prop) : Prop := P_O_requireDrawn z0 (fun (z1 : St) => P_S_hasEmptyPlace z1 (fun (x3 : Int32) (z2 : St) => ((x3 = 0) → P_S_isMember a1 z2 (fun (x5 : Int32) (z4 : St) => ((¬ x5 = 0) → P_S_vacate a1 z4 (fun (z6 : St) => P_D_end z6 (fun (z7 : St) => Q z7))) ∧ ((x5 = 0) → X 2 z4))) ∧ ((¬ x3 = 0) → X 1 z2))) X
set_option maxHeartbeats 4000000 in
set_option maxRecDepth 100000 in
theorem c_O_dropOut {l : Launch} {G : GG} (a1 : Int32) (z0 : St) (Q : St → Prop) (X : Nat → St → Prop) (hP : P_O_dropOut a1 z0 Q X) : CtvX l y_O_dropOut cc_O_dropOut 2 none rm_O_dropOut G [.ref (ha G 0), .int a1] z0 Q X := by
  refine CtvX.op (own := R_O) (by decide) rfl (Nat.le_of_ble_eq_true rfl) (fun p e s m args below meth c ls E hl hW => ?_)
  obtain ⟨hx, hb, hml, hown, hr, hlk, hex, hE⟩ := id E
  have hl : lv_has ls 2 [(0, .ref (ha G 0)), (1, .int a1)] := hl
  refine lv_aload_n hx hb d_O_dropOut_0 rfl (lv_at hl 0 rfl) ?_
  refine yx_v (yVX (As := []) (rest := []) E (c_O_requireDrawn _ _ _ hP) (cw_O_249 hE) (yrv_0 hE hW) (by decide) hW hl.1 rfl rfl rfl d_O_dropOut_1) hW (fun z1 H locs hP hW => ?_) hlk hex (fun _ _ h1 h2 => Or.inr ⟨h1, h2⟩)
  refine lv_aload_n hx hb d_O_dropOut_4 rfl (lv_at hl 0 rfl) ?_
  refine ygf_0_6 hx hb hown hE hW (lk_O_60 hE) d_O_dropOut_5 ?_
  refine yc_i (yV (As := []) (rest := []) E (c_S_hasEmptyPlace _ _ hP) (cw_O_255 hE) (yrv_26 hE hW) (by decide) hW hl.1 rfl rfl rfl d_O_dropOut_8) hW (fun x3 z2 H locs hP hW => ?_)
  refine lv_if_eq (tgt := 25) hx hb d_O_dropOut_11 rfl (fun hc => ?_) (fun hc => ?_)
  · have hP := hP.1 hc
    refine lv_aload_n hx hb d_O_dropOut_25 rfl (lv_at hl 0 rfl) ?_
    refine ygf_0_6 hx hb hown hE hW (lk_O_60 hE) d_O_dropOut_26 ?_
    refine lv_iload_n hx hb d_O_dropOut_29 rfl (lv_at hl 1 rfl) ?_
    refine yc_i (yV (As := [.int a1]) (rest := []) E (c_S_isMember _ _ _ hP) (cw_O_260 hE) (yrv_26 hE hW) (by decide) hW hl.1 rfl rfl rfl d_O_dropOut_30) hW (fun x5 z4 H locs hP hW => ?_)
    refine lv_if_ne (tgt := 47) hx hb d_O_dropOut_33 rfl (fun hc => ?_) (fun hc => ?_)
    · have hP := hP.1 hc
      refine lv_aload_n hx hb d_O_dropOut_47 rfl (lv_at hl 0 rfl) ?_
      refine ygf_0_6 hx hb hown hE hW (lk_O_60 hE) d_O_dropOut_48 ?_
      refine lv_iload_n hx hb d_O_dropOut_51 rfl (lv_at hl 1 rfl) ?_
      refine yc_v (yV (As := [.int a1]) (rest := []) E (c_S_vacate _ _ _ hP) (cw_O_265 hE) (yrv_26 hE hW) (by decide) hW hl.1 rfl rfl rfl d_O_dropOut_52) hW (fun z6 H locs hP hW => ?_)
      refine lv_aload_n hx hb d_O_dropOut_55 rfl (lv_at hl 0 rfl) ?_
      refine ygf_0_5 hx hb hown hE hW (lk_O_51 hE) d_O_dropOut_56 ?_
      refine yc_v (yV (As := []) (rest := []) E (c_D_end _ _ hP) (cw_O_246 hE) (yrv_25 hE hW) (by decide) hW hl.1 rfl rfl rfl d_O_dropOut_59) hW (fun z7 H locs hP hW => ?_)
      exact yr_vX hx hb hr hlk hW hP d_O_dropOut_62
    · have hP := hP.2 hc
      exact yt (k := 2) hx hb hown hlk hex hE hW hl.1 hml (by decide) (by decide) (fun _ h => lt_O_2_263 h) d_O_dropOut_36 d_O_dropOut_39 (Or.inr ⟨d_O_dropOut_40, rfl⟩) d_O_dropOut_43 d_O_dropOut_46 hP (fun _ _ h1 h2 => Or.inr ⟨h1, h2⟩)
  · have hP := hP.2 hc
    exact yt (k := 1) hx hb hown hlk hex hE hW hl.1 hml (by decide) (by decide) (fun _ h => lt_O_1_258 h) d_O_dropOut_14 d_O_dropOut_17 (Or.inr ⟨d_O_dropOut_18, rfl⟩) d_O_dropOut_21 d_O_dropOut_24 hP (fun _ _ h1 h2 => Or.inr ⟨h1, h2⟩)
theorem d_S_candidateAt_0 : decode cc_S_candidateAt 0 = .ok (.aload_n 0, 1) := by decide +kernel
theorem d_S_candidateAt_1 : decode cc_S_candidateAt 1 = .ok (.getfield 18, 3) := by decide +kernel
theorem d_S_candidateAt_4 : decode cc_S_candidateAt 4 = .ok (.iload_n 1, 1) := by decide +kernel
theorem d_S_candidateAt_5 : decode cc_S_candidateAt 5 = .ok (.iaload, 1) := by decide +kernel
theorem d_S_candidateAt_6 : decode cc_S_candidateAt 6 = .ok (.ireturn, 1) := by decide +kernel
def P_S_candidateAt (a1 : Int32) (z0 : St) (Q : Int32 → St → Prop) : Prop := vp_in a1 40 ∧ Q (z0.1 29 a1.toNatClampNeg) z0
set_option maxHeartbeats 4000000 in
set_option maxRecDepth 100000 in
theorem c_S_candidateAt {l : Launch} {G : GG} (a1 : Int32) (z0 : St) (Q : Int32 → St → Prop) (hP : P_S_candidateAt a1 z0 Q) : Cti l y_S_candidateAt cc_S_candidateAt 2 (some .int) rm_S_candidateAt G [.ref (ha G 26), .int a1] z0 Q := by
  refine Cti.op (own := R_S) (by decide) rfl (Nat.le_of_ble_eq_true rfl) (fun p e s m args below meth c ls E hl hW => ?_)
  obtain ⟨hx, hb, hml, hown, hr, hlk, hex, hE⟩ := id E
  have hl : lv_has ls 2 [(0, .ref (ha G 26)), (1, .int a1)] := hl
  refine lv_aload_n hx hb d_S_candidateAt_0 rfl (lv_at hl 0 rfl) ?_
  refine ygf_26_4 hx hb hown hE hW (lk_S_18 hE) d_S_candidateAt_1 ?_
  refine lv_iload_n hx hb d_S_candidateAt_4 rfl (lv_at hl 1 rfl) ?_
  refine ya_29 hx hb hE hW hP.1 d_S_candidateAt_5 ?_
  have hP := hP.2
  exact yr_i hx hb hr hlk hW hP d_S_candidateAt_6
theorem d_O_candidate_0 : decode cc_O_candidate 0 = .ok (.iload_n 1, 1) := by decide +kernel
theorem d_O_candidate_1 : decode cc_O_candidate 1 = .ok (.invokestatic 169, 3) := by decide +kernel
theorem d_O_candidate_4 : decode cc_O_candidate 4 = .ok (.iload_n 1, 1) := by decide +kernel
theorem d_O_candidate_5 : decode cc_O_candidate 5 = .ok (.aload_n 0, 1) := by decide +kernel
theorem d_O_candidate_6 : decode cc_O_candidate 6 = .ok (.getfield 60, 3) := by decide +kernel
theorem d_O_candidate_9 : decode cc_O_candidate 9 = .ok (.invokevirtual 268, 3) := by decide +kernel
theorem d_O_candidate_12 : decode cc_O_candidate 12 = .ok (.if_icmp .ge 14, 3) := by decide +kernel
theorem d_O_candidate_15 : decode cc_O_candidate 15 = .ok (.aload_n 0, 1) := by decide +kernel
theorem d_O_candidate_16 : decode cc_O_candidate 16 = .ok (.getfield 60, 3) := by decide +kernel
theorem d_O_candidate_19 : decode cc_O_candidate 19 = .ok (.iload_n 1, 1) := by decide +kernel
theorem d_O_candidate_20 : decode cc_O_candidate 20 = .ok (.invokevirtual 271, 3) := by decide +kernel
theorem d_O_candidate_23 : decode cc_O_candidate 23 = .ok (.goto 4, 3) := by decide +kernel
theorem d_O_candidate_26 : decode cc_O_candidate 26 = .ok (.iconst (-1), 1) := by decide +kernel
theorem d_O_candidate_27 : decode cc_O_candidate 27 = .ok (.ireturn, 1) := by decide +kernel
def P_O_candidate (a1 : Int32) (z0 : St) (Q : Int32 → St → Prop) (X : Nat → St → Prop) : Prop := P_O_requireIndex a1 z0 (fun (z1 : St) => P_S_listCandidates z1 (fun (x3 : Int32) (z2 : St) => ((x3 ≤ a1) → Q (-1 : Int32) z2) ∧ ((¬ x3 ≤ a1) → P_S_candidateAt a1 z2 (fun (x5 : Int32) (z4 : St) => Q x5 z4)))) X
set_option maxHeartbeats 4000000 in
set_option maxRecDepth 100000 in
theorem c_O_candidate {l : Launch} {G : GG} (a1 : Int32) (z0 : St) (Q : Int32 → St → Prop) (X : Nat → St → Prop) (hP : P_O_candidate a1 z0 Q X) : CtiX l y_O_candidate cc_O_candidate 2 (some .int) rm_O_candidate G [.ref (ha G 0), .int a1] z0 Q X := by
  refine CtiX.op (own := R_O) (by decide) rfl (Nat.le_of_ble_eq_true rfl) (fun p e s m args below meth c ls E hl hW => ?_)
  obtain ⟨hx, hb, hml, hown, hr, hlk, hex, hE⟩ := id E
  have hl : lv_has ls 2 [(0, .ref (ha G 0)), (1, .int a1)] := hl
  refine lv_iload_n hx hb d_O_candidate_0 rfl (lv_at hl 1 rfl) ?_
  refine yx_v (ySX (As := [.int a1]) (rest := []) E (c_O_requireIndex _ _ _ _ hP) (cw_O_169 hE) (by decide) hW hl.1 rfl rfl rfl d_O_candidate_1) hW (fun z1 H locs hP hW => ?_) hlk hex (fun _ _ h1 h2 => Or.inr ⟨h1, h2⟩)
  refine lv_iload_n hx hb d_O_candidate_4 rfl (lv_at hl 1 rfl) ?_
  refine lv_aload_n hx hb d_O_candidate_5 rfl (lv_at hl 0 rfl) ?_
  refine ygf_0_6 hx hb hown hE hW (lk_O_60 hE) d_O_candidate_6 ?_
  refine yc_i (yV (As := []) (rest := [.int a1]) E (c_S_listCandidates _ _ hP) (cw_O_268 hE) (yrv_26 hE hW) (by decide) hW hl.1 rfl rfl rfl d_O_candidate_9) hW (fun x3 z2 H locs hP hW => ?_)
  refine lv_icmp_ge (tgt := 26) hx hb d_O_candidate_12 rfl (fun hc => ?_) (fun hc => ?_)
  · have hP := hP.1 hc
    refine lv_iconst (v := -1) hx hb d_O_candidate_26 (by decide) ?_
    exact yr_iX hx hb hr hlk hW hP d_O_candidate_27
  · have hP := hP.2 hc
    refine lv_aload_n hx hb d_O_candidate_15 rfl (lv_at hl 0 rfl) ?_
    refine ygf_0_6 hx hb hown hE hW (lk_O_60 hE) d_O_candidate_16 ?_
    refine lv_iload_n hx hb d_O_candidate_19 rfl (lv_at hl 1 rfl) ?_
    refine yc_i (yV (As := [.int a1]) (rest := []) E (c_S_candidateAt _ _ _ hP) (cw_O_271 hE) (yrv_26 hE hW) (by decide) hW hl.1 rfl rfl rfl d_O_candidate_20) hW (fun x5 z4 H locs hP hW => ?_)
    refine lv_goto (tgt := 27) hx hb d_O_candidate_23 rfl ?_
    exact yr_iX hx hb hr hlk hW hP d_O_candidate_27
theorem d_S_admitCandidate_0 : decode cc_S_admitCandidate 0 = .ok (.aload_n 0, 1) := by decide +kernel
theorem d_S_admitCandidate_1 : decode cc_S_admitCandidate 1 = .ok (.invokevirtual 60, 3) := by decide +kernel
theorem d_S_admitCandidate_4 : decode cc_S_admitCandidate 4 = .ok (.iconst 1, 1) := by decide +kernel
theorem d_S_admitCandidate_5 : decode cc_S_admitCandidate 5 = .ok (.isub, 1) := by decide +kernel
theorem d_S_admitCandidate_6 : decode cc_S_admitCandidate 6 = .ok (.i2l, 1) := by decide +kernel
theorem d_S_admitCandidate_7 : decode cc_S_admitCandidate 7 = .ok (.lstore_n 3, 1) := by decide +kernel
theorem d_S_admitCandidate_8 : decode cc_S_admitCandidate 8 = .ok (.aload_n 0, 1) := by decide +kernel
theorem d_S_admitCandidate_9 : decode cc_S_admitCandidate 9 = .ok (.getfield 18, 3) := by decide +kernel
theorem d_S_admitCandidate_12 : decode cc_S_admitCandidate 12 = .ok (.lconst 0, 1) := by decide +kernel
theorem d_S_admitCandidate_13 : decode cc_S_admitCandidate 13 = .ok (.lload_n 1, 1) := by decide +kernel
theorem d_S_admitCandidate_14 : decode cc_S_admitCandidate 14 = .ok (.lload_n 3, 1) := by decide +kernel
theorem d_S_admitCandidate_15 : decode cc_S_admitCandidate 15 = .ok (.invokestatic 64, 3) := by decide +kernel
theorem d_S_admitCandidate_18 : decode cc_S_admitCandidate 18 = .ok (.invokestatic 67, 3) := by decide +kernel
theorem d_S_admitCandidate_21 : decode cc_S_admitCandidate 21 = .ok (.l2i, 1) := by decide +kernel
theorem d_S_admitCandidate_22 : decode cc_S_admitCandidate 22 = .ok (.iaload, 1) := by decide +kernel
theorem d_S_admitCandidate_23 : decode cc_S_admitCandidate 23 = .ok (.istore 5, 2) := by decide +kernel
theorem d_S_admitCandidate_25 : decode cc_S_admitCandidate 25 = .ok (.aload_n 0, 1) := by decide +kernel
theorem d_S_admitCandidate_26 : decode cc_S_admitCandidate 26 = .ok (.getfield 9, 3) := by decide +kernel
theorem d_S_admitCandidate_29 : decode cc_S_admitCandidate 29 = .ok (.aload_n 0, 1) := by decide +kernel
theorem d_S_admitCandidate_30 : decode cc_S_admitCandidate 30 = .ok (.getfield 32, 3) := by decide +kernel
theorem d_S_admitCandidate_33 : decode cc_S_admitCandidate 33 = .ok (.iload 5, 2) := by decide +kernel
theorem d_S_admitCandidate_35 : decode cc_S_admitCandidate 35 = .ok (.iastore, 1) := by decide +kernel
theorem d_S_admitCandidate_36 : decode cc_S_admitCandidate 36 = .ok (.aload_n 0, 1) := by decide +kernel
theorem d_S_admitCandidate_37 : decode cc_S_admitCandidate 37 = .ok (.dup, 1) := by decide +kernel
theorem d_S_admitCandidate_38 : decode cc_S_admitCandidate 38 = .ok (.getfield 25, 3) := by decide +kernel
theorem d_S_admitCandidate_41 : decode cc_S_admitCandidate 41 = .ok (.lconst 1, 1) := by decide +kernel
theorem d_S_admitCandidate_42 : decode cc_S_admitCandidate 42 = .ok (.iload 5, 2) := by decide +kernel
theorem d_S_admitCandidate_44 : decode cc_S_admitCandidate 44 = .ok (.lshl, 1) := by decide +kernel
theorem d_S_admitCandidate_45 : decode cc_S_admitCandidate 45 = .ok (.lor, 1) := by decide +kernel
theorem d_S_admitCandidate_46 : decode cc_S_admitCandidate 46 = .ok (.putfield 25, 3) := by decide +kernel
theorem d_S_admitCandidate_49 : decode cc_S_admitCandidate 49 = .ok (.aload_n 0, 1) := by decide +kernel
theorem d_S_admitCandidate_50 : decode cc_S_admitCandidate 50 = .ok (.iconst (-1), 1) := by decide +kernel
theorem d_S_admitCandidate_51 : decode cc_S_admitCandidate 51 = .ok (.putfield 32, 3) := by decide +kernel
theorem d_S_admitCandidate_54 : decode cc_S_admitCandidate 54 = .ok (.iload 5, 2) := by decide +kernel
theorem d_S_admitCandidate_56 : decode cc_S_admitCandidate 56 = .ok (.ireturn, 1) := by decide +kernel
def P_S_admitCandidate (a1 : Int64) (z0 : St) (Q : Int32 → St → Prop) : Prop := P_S_listCandidates z0 (fun (x2 : Int32) (z1 : St) => ∀ x3 : Int64, x3 = (x2 - (1 : Int32)).toInt64 → vp_in ((mmaxL (0 : Int64) (mminL a1 x3)).toInt32) 40 ∧ ∀ x4 : Int32, x4 = (z1.1 29 ((mmaxL (0 : Int64) (mminL a1 x3)).toInt32).toNatClampNeg) → vp_in (z1.1 26 8) 8 ∧ ∀ z5 : St, z5 = wI z1 27 (z1.1 26 8).toNatClampNeg x4 → ∀ z6 : St, z6 = wL z5 26 6 ((z5.2 26 6) ||| ((1 : Int64) <<< (x4.toInt64 &&& 63))) → ∀ z7 : St, z7 = wI z6 26 8 (-1 : Int32) → Q x4 z7)
set_option maxHeartbeats 4000000 in
set_option maxRecDepth 100000 in
theorem c_S_admitCandidate {l : Launch} {G : GG} (a1 : Int64) (z0 : St) (Q : Int32 → St → Prop) (hP : P_S_admitCandidate a1 z0 Q) : Cti l y_S_admitCandidate cc_S_admitCandidate 6 (some .int) rm_S_admitCandidate G [.ref (ha G 26), .long a1] z0 Q := by
  refine Cti.op (own := R_S) (by decide) rfl (Nat.le_of_ble_eq_true rfl) (fun p e s m args below meth c ls E hl hW => ?_)
  obtain ⟨hx, hb, hml, hown, hr, hlk, hex, hE⟩ := id E
  have hl : lv_has ls 6 [(0, .ref (ha G 26)), (1, .long a1)] := hl
  refine lv_aload_n hx hb d_S_admitCandidate_0 rfl (lv_at hl 0 rfl) ?_
  refine yc_i (yV (As := []) (rest := []) E (c_S_listCandidates _ _ hP) (cw_S_60 hE) (yrv_26 hE hW) (by decide) hW hl.1 rfl rfl rfl d_S_admitCandidate_1) hW (fun x2 z1 H locs hP hW => ?_)
  refine lv_iconst (v := 1) hx hb d_S_admitCandidate_4 (by decide) ?_
  refine lv_isub hx hb d_S_admitCandidate_5 ?_
  refine lv_i2l hx hb d_S_admitCandidate_6 rfl ?_
  refine lv_topl (fun x3 e_x3 => ?_)
  have hP := hP x3 e_x3
  refine lv_lstore_n (lv' := [(3, .long x3), (0, .ref (ha G 26)), (1, .long a1)]) hx hb d_S_admitCandidate_7 rfl hl (by decide) rfl (fun ls hl => ?_)
  refine lv_aload_n hx hb d_S_admitCandidate_8 rfl (lv_at hl 1 rfl) ?_
  refine ygf_26_4 hx hb hown hE hW (lk_S_18 hE) d_S_admitCandidate_9 ?_
  refine lv_lconst (v := 0) hx hb d_S_admitCandidate_12 (by decide) ?_
  refine lv_lload_n hx hb d_S_admitCandidate_13 rfl (lv_at hl 2 rfl) ?_
  refine lv_lload_n hx hb d_S_admitCandidate_14 rfl (lv_at hl 0 rfl) ?_
  refine ym_minL (rest := [.long (0 : Int64), .ref (ha G 29)]) hx hb (hml.trans hl.1.symm) hown hE (lk_S_64 hE) (by decide) rfl d_S_admitCandidate_15 ?_
  refine ym_maxL (rest := [.ref (ha G 29)]) hx hb (hml.trans hl.1.symm) hown hE (lk_S_67 hE) (by decide) rfl d_S_admitCandidate_18 ?_
  refine lv_l2i hx hb d_S_admitCandidate_21 rfl ?_
  refine ya_29 hx hb hE hW hP.1 d_S_admitCandidate_22 ?_
  have hP := hP.2
  refine lv_topi (fun x4 e_x4 => ?_)
  have hP := hP x4 e_x4
  refine lv_istore (lv' := [(5, .int x4), (3, .long x3), (0, .ref (ha G 26)), (1, .long a1)]) hx hb d_S_admitCandidate_23 hl (by decide) rfl (fun ls hl => ?_)
  refine lv_aload_n hx hb d_S_admitCandidate_25 rfl (lv_at hl 2 rfl) ?_
  refine ygf_26_2 hx hb hown hE hW (lk_S_9 hE) d_S_admitCandidate_26 ?_
  refine lv_aload_n hx hb d_S_admitCandidate_29 rfl (lv_at hl 2 rfl) ?_
  refine ygf_26_8 hx hb hown hE hW (lk_S_32 hE) d_S_admitCandidate_30 ?_
  refine lv_iload hx hb d_S_admitCandidate_33 (lv_at hl 0 rfl) ?_
  refine ys_27 hx hb hE hW hP.1 d_S_admitCandidate_35 (fun z5 H locs e_z5 hW => ?_)
  have hP := hP.2
  have hP := hP z5 e_z5
  refine lv_aload_n hx hb d_S_admitCandidate_36 rfl (lv_at hl 2 rfl) ?_
  refine lv_dup hx hb d_S_admitCandidate_37 rfl ?_
  refine ygf_26_6 hx hb hown hE hW (lk_S_25 hE) d_S_admitCandidate_38 ?_
  refine lv_lconst (v := 1) hx hb d_S_admitCandidate_41 (by decide) ?_
  refine lv_iload hx hb d_S_admitCandidate_42 (lv_at hl 0 rfl) ?_
  refine lv_lshl hx hb d_S_admitCandidate_44 rfl ?_
  refine lv_lor hx hb d_S_admitCandidate_45 ?_
  refine ypf_26_6 hx hb hown hE hW (lk_S_25 hE) d_S_admitCandidate_46 (fun z6 H locs e_z6 hW => ?_)
  have hP := hP z6 e_z6
  refine lv_aload_n hx hb d_S_admitCandidate_49 rfl (lv_at hl 2 rfl) ?_
  refine lv_iconst (v := -1) hx hb d_S_admitCandidate_50 (by decide) ?_
  refine ypf_26_8 hx hb hown hE hW (lk_S_32 hE) d_S_admitCandidate_51 (fun z7 H locs e_z7 hW => ?_)
  have hP := hP z7 e_z7
  refine lv_iload hx hb d_S_admitCandidate_54 (lv_at hl 0 rfl) ?_
  exact yr_i hx hb hr hlk hW hP d_S_admitCandidate_56
theorem d_O_replace_0 : decode cc_O_replace 0 = .ok (.aload_n 0, 1) := by decide +kernel
theorem d_O_replace_1 : decode cc_O_replace 1 = .ok (.getfield 60, 3) := by decide +kernel
theorem d_O_replace_4 : decode cc_O_replace 4 = .ok (.invokevirtual 255, 3) := by decide +kernel
theorem d_O_replace_7 : decode cc_O_replace 7 = .ok (.ifCond .ne 14, 3) := by decide +kernel
theorem d_O_replace_10 : decode cc_O_replace 10 = .ok (.new 117, 3) := by decide +kernel
theorem d_O_replace_13 : decode cc_O_replace 13 = .ok (.dup, 1) := by decide +kernel
theorem d_O_replace_14 : decode cc_O_replace 14 = .ok (.ldc_w 274, 3) := by decide +kernel
theorem d_O_replace_17 : decode cc_O_replace 17 = .ok (.invokespecial 121, 3) := by decide +kernel
theorem d_O_replace_20 : decode cc_O_replace 20 = .ok (.athrow, 1) := by decide +kernel
theorem d_O_replace_21 : decode cc_O_replace 21 = .ok (.aload_n 0, 1) := by decide +kernel
theorem d_O_replace_22 : decode cc_O_replace 22 = .ok (.invokevirtual 239, 3) := by decide +kernel
theorem d_O_replace_25 : decode cc_O_replace 25 = .ok (.aload_n 0, 1) := by decide +kernel
theorem d_O_replace_26 : decode cc_O_replace 26 = .ok (.getfield 60, 3) := by decide +kernel
theorem d_O_replace_29 : decode cc_O_replace 29 = .ok (.aload_n 0, 1) := by decide +kernel
theorem d_O_replace_30 : decode cc_O_replace 30 = .ok (.getfield 51, 3) := by decide +kernel
theorem d_O_replace_33 : decode cc_O_replace 33 = .ok (.invokevirtual 236, 3) := by decide +kernel
theorem d_O_replace_36 : decode cc_O_replace 36 = .ok (.invokevirtual 276, 3) := by decide +kernel
theorem d_O_replace_39 : decode cc_O_replace 39 = .ok (.istore_n 1, 1) := by decide +kernel
theorem d_O_replace_40 : decode cc_O_replace 40 = .ok (.aload_n 0, 1) := by decide +kernel
theorem d_O_replace_41 : decode cc_O_replace 41 = .ok (.getfield 51, 3) := by decide +kernel
theorem d_O_replace_44 : decode cc_O_replace 44 = .ok (.invokevirtual 246, 3) := by decide +kernel
theorem d_O_replace_47 : decode cc_O_replace 47 = .ok (.iload_n 1, 1) := by decide +kernel
theorem d_O_replace_48 : decode cc_O_replace 48 = .ok (.ireturn, 1) := by decide +kernel
def P_O_replace (z0 : St) (Q : Int32 → St → Prop) (X : Nat → St → Prop) : Prop := P_S_hasEmptyPlace z0 (fun (x2 : Int32) (z1 : St) => ((¬ x2 = 0) → P_O_requireNumber z1 (fun (z3 : St) => P_D_made z3 (fun (x5 : Int64) (z4 : St) => P_S_admitCandidate x5 z4 (fun (x7 : Int32) (z6 : St) => P_D_end z6 (fun (z8 : St) => Q x7 z8)))) X) ∧ ((x2 = 0) → X 1 z1))
set_option maxHeartbeats 4000000 in
set_option maxRecDepth 100000 in
theorem c_O_replace {l : Launch} {G : GG} (z0 : St) (Q : Int32 → St → Prop) (X : Nat → St → Prop) (hP : P_O_replace z0 Q X) : CtiX l y_O_replace cc_O_replace 2 (some .int) rm_O_replace G [.ref (ha G 0)] z0 Q X := by
  refine CtiX.op (own := R_O) (by decide) rfl (Nat.le_of_ble_eq_true rfl) (fun p e s m args below meth c ls E hl hW => ?_)
  obtain ⟨hx, hb, hml, hown, hr, hlk, hex, hE⟩ := id E
  have hl : lv_has ls 2 [(0, .ref (ha G 0))] := hl
  refine lv_aload_n hx hb d_O_replace_0 rfl (lv_at hl 0 rfl) ?_
  refine ygf_0_6 hx hb hown hE hW (lk_O_60 hE) d_O_replace_1 ?_
  refine yc_i (yV (As := []) (rest := []) E (c_S_hasEmptyPlace _ _ hP) (cw_O_255 hE) (yrv_26 hE hW) (by decide) hW hl.1 rfl rfl rfl d_O_replace_4) hW (fun x2 z1 H locs hP hW => ?_)
  refine lv_if_ne (tgt := 21) hx hb d_O_replace_7 rfl (fun hc => ?_) (fun hc => ?_)
  · have hP := hP.1 hc
    refine lv_aload_n hx hb d_O_replace_21 rfl (lv_at hl 0 rfl) ?_
    refine yx_v (yVX (As := []) (rest := []) E (c_O_requireNumber _ _ _ hP) (cw_O_239 hE) (yrv_0 hE hW) (by decide) hW hl.1 rfl rfl rfl d_O_replace_22) hW (fun z3 H locs hP hW => ?_) hlk hex (fun _ _ h1 h2 => Or.inr ⟨h1, h2⟩)
    refine lv_aload_n hx hb d_O_replace_25 rfl (lv_at hl 0 rfl) ?_
    refine ygf_0_6 hx hb hown hE hW (lk_O_60 hE) d_O_replace_26 ?_
    refine lv_aload_n hx hb d_O_replace_29 rfl (lv_at hl 0 rfl) ?_
    refine ygf_0_5 hx hb hown hE hW (lk_O_51 hE) d_O_replace_30 ?_
    refine yc_l (yV (As := []) (rest := [.ref (ha G 26)]) E (c_D_made _ _ hP) (cw_O_236 hE) (yrv_25 hE hW) (by decide) hW hl.1 rfl rfl rfl d_O_replace_33) hW (fun x5 z4 H locs hP hW => ?_)
    refine yc_i (yV (As := [.long x5]) (rest := []) E (c_S_admitCandidate _ _ _ hP) (cw_O_276 hE) (yrv_26 hE hW) (by decide) hW hl.1 rfl rfl rfl d_O_replace_36) hW (fun x7 z6 H locs hP hW => ?_)
    refine lv_istore_n (lv' := [(1, .int x7), (0, .ref (ha G 0))]) hx hb d_O_replace_39 rfl hl (by decide) rfl (fun ls hl => ?_)
    refine lv_aload_n hx hb d_O_replace_40 rfl (lv_at hl 1 rfl) ?_
    refine ygf_0_5 hx hb hown hE hW (lk_O_51 hE) d_O_replace_41 ?_
    refine yc_v (yV (As := []) (rest := []) E (c_D_end _ _ hP) (cw_O_246 hE) (yrv_25 hE hW) (by decide) hW hl.1 rfl rfl rfl d_O_replace_44) hW (fun z8 H locs hP hW => ?_)
    refine lv_iload_n hx hb d_O_replace_47 rfl (lv_at hl 0 rfl) ?_
    exact yr_iX hx hb hr hlk hW hP d_O_replace_48
  · have hP := hP.2 hc
    exact yt (k := 1) hx hb hown hlk hex hE hW hl.1 hml (by decide) (by decide) (fun _ h => lt_O_1_274 h) d_O_replace_10 d_O_replace_13 (Or.inr ⟨d_O_replace_14, rfl⟩) d_O_replace_17 d_O_replace_20 hP (fun _ _ h1 h2 => Or.inr ⟨h1, h2⟩)
theorem d_O_breach_0 : decode cc_O_breach 0 = .ok (.aload_n 0, 1) := by decide +kernel
theorem d_O_breach_1 : decode cc_O_breach 1 = .ok (.invokevirtual 249, 3) := by decide +kernel
theorem d_O_breach_4 : decode cc_O_breach 4 = .ok (.aload_n 0, 1) := by decide +kernel
theorem d_O_breach_5 : decode cc_O_breach 5 = .ok (.getfield 60, 3) := by decide +kernel
theorem d_O_breach_8 : decode cc_O_breach 8 = .ok (.iconst (-1), 1) := by decide +kernel
theorem d_O_breach_9 : decode cc_O_breach 9 = .ok (.invokevirtual 280, 3) := by decide +kernel
theorem d_O_breach_12 : decode cc_O_breach 12 = .ok (.ireturn, 1) := by decide +kernel
def P_O_breach (z0 : St) (Q : Int32 → St → Prop) (X : Nat → St → Prop) : Prop := P_O_requireDrawn z0 (fun (z1 : St) => P_S_breachWith (-1 : Int32) z1 (fun (x3 : Int32) (z2 : St) => Q x3 z2)) X
set_option maxHeartbeats 4000000 in
set_option maxRecDepth 100000 in
theorem c_O_breach {l : Launch} {G : GG} (z0 : St) (Q : Int32 → St → Prop) (X : Nat → St → Prop) (hP : P_O_breach z0 Q X) : CtiX l y_O_breach cc_O_breach 1 (some .int) rm_O_breach G [.ref (ha G 0)] z0 Q X := by
  refine CtiX.op (own := R_O) (by decide) rfl (Nat.le_of_ble_eq_true rfl) (fun p e s m args below meth c ls E hl hW => ?_)
  obtain ⟨hx, hb, hml, hown, hr, hlk, hex, hE⟩ := id E
  have hl : lv_has ls 1 [(0, .ref (ha G 0))] := hl
  refine lv_aload_n hx hb d_O_breach_0 rfl (lv_at hl 0 rfl) ?_
  refine yx_v (yVX (As := []) (rest := []) E (c_O_requireDrawn _ _ _ hP) (cw_O_249 hE) (yrv_0 hE hW) (by decide) hW hl.1 rfl rfl rfl d_O_breach_1) hW (fun z1 H locs hP hW => ?_) hlk hex (fun _ _ h1 h2 => Or.inr ⟨h1, h2⟩)
  refine lv_aload_n hx hb d_O_breach_4 rfl (lv_at hl 0 rfl) ?_
  refine ygf_0_6 hx hb hown hE hW (lk_O_60 hE) d_O_breach_5 ?_
  refine lv_iconst (v := -1) hx hb d_O_breach_8 (by decide) ?_
  refine yc_i (yV (As := [.int (-1 : Int32)]) (rest := []) E (c_S_breachWith _ _ _ hP) (cw_O_280 hE) (yrv_26 hE hW) (by decide) hW hl.1 rfl rfl rfl d_O_breach_9) hW (fun x3 z2 H locs hP hW => ?_)
  exact yr_iX hx hb hr hlk hW hP d_O_breach_12
def L_A_fill4_5 (Q : St → Prop) : Nat → Int32 → Int32 → Int32 → St → Prop
  | 0, _, _, _, _ => False
  | n + 1, v1, v2, v3, z0 => ((v3 ≤ v2) → Q z0) ∧ ((¬ v3 ≤ v2) → vp_in v2 3 ∧ ∀ z1 : St, z1 = wI z0 2 v2.toNatClampNeg v1 → ∀ x2 : Int32, x2 = v2 + 1 → L_A_fill4_5 Q n v1 x2 v3 z1)
def P_A_fill4 (a1 : Int32) (z0 : St) (Q : St → Prop) : Prop := ∃ k5 : Nat, L_A_fill4_5 Q k5 a1 (0 : Int32) (3 : Int32) z0
set_option maxHeartbeats 4000000 in
set_option maxRecDepth 100000 in
theorem wL_A_fill4_5 {Q : St → Prop} (E : En p l s m meth c args cc_A_fill2 4 R_A none G) :
    ∀ (n : Nat) (v1 : Int32) (v2 : Int32) (v3 : Int32) (z0 : St) (ls : Array Slot) (H : Heap) (locs : List Loc), L_A_fill4_5 Q n v1 v2 v3 z0 → lv_has ls 4 [(0, .ref (ha G 2)), (1, .int v1), (2, .int v2), (3, .int v3)] → Wd G z0 s.heap H locs → W p l e rm_A_fill4 s m args below meth c H locs 0 0 (MQ below (QvR Q G) args s 0 0 (fr G)) (F0 m 5 ls []) := by
  obtain ⟨hx, hb, hml, hown, hr, hlk, hex, hE⟩ := id E
  intro n
  induction n with
  | zero => exact fun _ _ _ _ _ _ _ hP _ _ => hP.elim
  | succ n ih =>
    intro v1 v2 v3 z0 ls H locs hP hl hW
    refine lv_iload_n hx hb d_A_fill2_5 rfl (lv_at hl 2 rfl) ?_
    refine lv_iload_n hx hb d_A_fill2_6 rfl (lv_at hl 3 rfl) ?_
    refine lv_icmp_ge (tgt := 20) hx hb d_A_fill2_7 rfl (fun hc => ?_) (fun hc => ?_)
    · have hP := hP.1 hc
      exact yr_v hx hb hr hlk hW hP d_A_fill2_20
    · have hP := hP.2 hc
      refine lv_aload_n hx hb d_A_fill2_10 rfl (lv_at hl 0 rfl) ?_
      refine lv_iload_n hx hb d_A_fill2_11 rfl (lv_at hl 2 rfl) ?_
      refine lv_iload_n hx hb d_A_fill2_12 rfl (lv_at hl 1 rfl) ?_
      refine ys_2 hx hb hE hW hP.1 d_A_fill2_13 (fun z1 H locs e_z1 hW => ?_)
      have hP := hP.2
      have hP := hP z1 e_z1
      obtain ⟨x2, e_x2⟩ : ∃ z : Int32, z = v2 + 1 := ⟨_, rfl⟩
      have hP := hP x2 e_x2
      refine lv_iinc (k := 2) (lv' := [(2, .int x2), (0, .ref (ha G 2)), (1, .int v1), (3, .int v3)]) hx hb d_A_fill2_14 hl rfl (ii_p1 e_x2) (by decide) rfl (fun ls hl => ?_)
      refine lv_goto (tgt := 5) hx hb d_A_fill2_17 rfl ?_
      exact ih _ _ _ _ _ _ _ hP (lv_sub hl [1, 2, 0, 3] rfl) hW
set_option maxHeartbeats 4000000 in
set_option maxRecDepth 100000 in
theorem c_A_fill4 {l : Launch} {G : GG} (a1 : Int32) (z0 : St) (Q : St → Prop) (hP : P_A_fill4 a1 z0 Q) : Ctv l y_A_fill2 cc_A_fill2 4 none rm_A_fill4 G [.ref (ha G 2), .int a1] z0 Q := by
  refine Ctv.op (own := R_A) (by decide) rfl (Nat.le_of_ble_eq_true rfl) (fun p e s m args below meth c ls E hl hW => ?_)
  obtain ⟨hx, hb, hml, hown, hr, hlk, hex, hE⟩ := id E
  have hl : lv_has ls 4 [(0, .ref (ha G 2)), (1, .int a1)] := hl
  refine lv_iconst (v := 0) hx hb d_A_fill2_0 (by decide) ?_
  refine lv_istore_n (lv' := [(2, .int (0 : Int32)), (0, .ref (ha G 2)), (1, .int a1)]) hx hb d_A_fill2_1 rfl hl (by decide) rfl (fun ls hl => ?_)
  refine lv_aload_n hx hb d_A_fill2_2 rfl (lv_at hl 1 rfl) ?_
  refine yn_2 hx hb hE hW d_A_fill2_3 ?_
  refine lv_istore_n (lv' := [(3, .int (3 : Int32)), (2, .int (0 : Int32)), (0, .ref (ha G 2)), (1, .int a1)]) hx hb d_A_fill2_4 rfl hl (by decide) rfl (fun ls hl => ?_)
  obtain ⟨n2, hP⟩ := hP
  refine wL_A_fill4_5 E n2 _ _ _ _ _ _ _ hP (lv_sub hl [2, 3, 1, 0] rfl) hW
theorem d_P_clear_0 : decode cc_P_clear 0 = .ok (.aload_n 0, 1) := by decide +kernel
theorem d_P_clear_1 : decode cc_P_clear 1 = .ok (.getfield 9, 3) := by decide +kernel
theorem d_P_clear_4 : decode cc_P_clear 4 = .ok (.iconst 1, 1) := by decide +kernel
theorem d_P_clear_5 : decode cc_P_clear 5 = .ok (.invokestatic 31, 3) := by decide +kernel
theorem d_P_clear_8 : decode cc_P_clear 8 = .ok (.aload_n 0, 1) := by decide +kernel
theorem d_P_clear_9 : decode cc_P_clear 9 = .ok (.iconst 0, 1) := by decide +kernel
theorem d_P_clear_10 : decode cc_P_clear 10 = .ok (.putfield 24, 3) := by decide +kernel
theorem d_P_clear_13 : decode cc_P_clear 13 = .ok (.aload_n 0, 1) := by decide +kernel
theorem d_P_clear_14 : decode cc_P_clear 14 = .ok (.iconst 0, 1) := by decide +kernel
theorem d_P_clear_15 : decode cc_P_clear 15 = .ok (.putfield 28, 3) := by decide +kernel
theorem d_P_clear_18 : decode cc_P_clear 18 = .ok (.return_, 1) := by decide +kernel
def P_P_clear (z0 : St) (Q : St → Prop) : Prop := P_A_fill4 (1 : Int32) z0 (fun (z1 : St) => ∀ z2 : St, z2 = wI z1 1 4 (0 : Int32) → ∀ z3 : St, z3 = wI z2 1 5 (0 : Int32) → Q z3)
set_option maxHeartbeats 4000000 in
set_option maxRecDepth 100000 in
theorem c_P_clear {l : Launch} {G : GG} (z0 : St) (Q : St → Prop) (hP : P_P_clear z0 Q) : Ctv l y_P_clear cc_P_clear 1 none rm_P_clear G [.ref (ha G 1)] z0 Q := by
  refine Ctv.op (own := R_P) (by decide) rfl (Nat.le_of_ble_eq_true rfl) (fun p e s m args below meth c ls E hl hW => ?_)
  obtain ⟨hx, hb, hml, hown, hr, hlk, hex, hE⟩ := id E
  have hl : lv_has ls 1 [(0, .ref (ha G 1))] := hl
  refine lv_aload_n hx hb d_P_clear_0 rfl (lv_at hl 0 rfl) ?_
  refine ygf_1_0 hx hb hown hE hW (lk_P_9 hE) d_P_clear_1 ?_
  refine lv_iconst (v := 1) hx hb d_P_clear_4 (by decide) ?_
  refine yc_v (yS (As := [.ref (ha G 2), .int (1 : Int32)]) (rest := []) E (c_A_fill4 _ _ _ hP) (cw_P_31 hE) (by decide) hW hl.1 rfl rfl rfl d_P_clear_5) hW (fun z1 H locs hP hW => ?_)
  refine lv_aload_n hx hb d_P_clear_8 rfl (lv_at hl 0 rfl) ?_
  refine lv_iconst (v := 0) hx hb d_P_clear_9 (by decide) ?_
  refine ypf_1_4 hx hb hown hE hW (lk_P_24 hE) d_P_clear_10 (fun z2 H locs e_z2 hW => ?_)
  have hP := hP z2 e_z2
  refine lv_aload_n hx hb d_P_clear_13 rfl (lv_at hl 0 rfl) ?_
  refine lv_iconst (v := 0) hx hb d_P_clear_14 (by decide) ?_
  refine ypf_1_5 hx hb hown hE hW (lk_P_28 hE) d_P_clear_15 (fun z3 H locs e_z3 hW => ?_)
  have hP := hP z3 e_z3
  exact yr_v hx hb hr hlk hW hP d_P_clear_18
def L_A_fill5_5 (Q : St → Prop) : Nat → Int32 → Int32 → Int32 → St → Prop
  | 0, _, _, _, _ => False
  | n + 1, v1, v2, v3, z0 => ((v3 ≤ v2) → Q z0) ∧ ((¬ v3 ≤ v2) → vp_in v2 12 ∧ ∀ z1 : St, z1 = wI z0 7 v2.toNatClampNeg v1 → ∀ x2 : Int32, x2 = v2 + 1 → L_A_fill5_5 Q n v1 x2 v3 z1)
def P_A_fill5 (a1 : Int32) (z0 : St) (Q : St → Prop) : Prop := ∃ k5 : Nat, L_A_fill5_5 Q k5 a1 (0 : Int32) (12 : Int32) z0
set_option maxHeartbeats 4000000 in
set_option maxRecDepth 100000 in
theorem wL_A_fill5_5 {Q : St → Prop} (E : En p l s m meth c args cc_A_fill2 4 R_A none G) :
    ∀ (n : Nat) (v1 : Int32) (v2 : Int32) (v3 : Int32) (z0 : St) (ls : Array Slot) (H : Heap) (locs : List Loc), L_A_fill5_5 Q n v1 v2 v3 z0 → lv_has ls 4 [(0, .ref (ha G 7)), (1, .int v1), (2, .int v2), (3, .int v3)] → Wd G z0 s.heap H locs → W p l e rm_A_fill5 s m args below meth c H locs 0 0 (MQ below (QvR Q G) args s 0 0 (fr G)) (F0 m 5 ls []) := by
  obtain ⟨hx, hb, hml, hown, hr, hlk, hex, hE⟩ := id E
  intro n
  induction n with
  | zero => exact fun _ _ _ _ _ _ _ hP _ _ => hP.elim
  | succ n ih =>
    intro v1 v2 v3 z0 ls H locs hP hl hW
    refine lv_iload_n hx hb d_A_fill2_5 rfl (lv_at hl 2 rfl) ?_
    refine lv_iload_n hx hb d_A_fill2_6 rfl (lv_at hl 3 rfl) ?_
    refine lv_icmp_ge (tgt := 20) hx hb d_A_fill2_7 rfl (fun hc => ?_) (fun hc => ?_)
    · have hP := hP.1 hc
      exact yr_v hx hb hr hlk hW hP d_A_fill2_20
    · have hP := hP.2 hc
      refine lv_aload_n hx hb d_A_fill2_10 rfl (lv_at hl 0 rfl) ?_
      refine lv_iload_n hx hb d_A_fill2_11 rfl (lv_at hl 2 rfl) ?_
      refine lv_iload_n hx hb d_A_fill2_12 rfl (lv_at hl 1 rfl) ?_
      refine ys_7 hx hb hE hW hP.1 d_A_fill2_13 (fun z1 H locs e_z1 hW => ?_)
      have hP := hP.2
      have hP := hP z1 e_z1
      obtain ⟨x2, e_x2⟩ : ∃ z : Int32, z = v2 + 1 := ⟨_, rfl⟩
      have hP := hP x2 e_x2
      refine lv_iinc (k := 2) (lv' := [(2, .int x2), (0, .ref (ha G 7)), (1, .int v1), (3, .int v3)]) hx hb d_A_fill2_14 hl rfl (ii_p1 e_x2) (by decide) rfl (fun ls hl => ?_)
      refine lv_goto (tgt := 5) hx hb d_A_fill2_17 rfl ?_
      exact ih _ _ _ _ _ _ _ hP (lv_sub hl [1, 2, 0, 3] rfl) hW
set_option maxHeartbeats 4000000 in
set_option maxRecDepth 100000 in
theorem c_A_fill5 {l : Launch} {G : GG} (a1 : Int32) (z0 : St) (Q : St → Prop) (hP : P_A_fill5 a1 z0 Q) : Ctv l y_A_fill2 cc_A_fill2 4 none rm_A_fill5 G [.ref (ha G 7), .int a1] z0 Q := by
  refine Ctv.op (own := R_A) (by decide) rfl (Nat.le_of_ble_eq_true rfl) (fun p e s m args below meth c ls E hl hW => ?_)
  obtain ⟨hx, hb, hml, hown, hr, hlk, hex, hE⟩ := id E
  have hl : lv_has ls 4 [(0, .ref (ha G 7)), (1, .int a1)] := hl
  refine lv_iconst (v := 0) hx hb d_A_fill2_0 (by decide) ?_
  refine lv_istore_n (lv' := [(2, .int (0 : Int32)), (0, .ref (ha G 7)), (1, .int a1)]) hx hb d_A_fill2_1 rfl hl (by decide) rfl (fun ls hl => ?_)
  refine lv_aload_n hx hb d_A_fill2_2 rfl (lv_at hl 1 rfl) ?_
  refine yn_7 hx hb hE hW d_A_fill2_3 ?_
  refine lv_istore_n (lv' := [(3, .int (12 : Int32)), (2, .int (0 : Int32)), (0, .ref (ha G 7)), (1, .int a1)]) hx hb d_A_fill2_4 rfl hl (by decide) rfl (fun ls hl => ?_)
  obtain ⟨n2, hP⟩ := hP
  refine wL_A_fill5_5 E n2 _ _ _ _ _ _ _ hP (lv_sub hl [2, 3, 1, 0] rfl) hW
def L_A_fill6_5 (Q : St → Prop) : Nat → Int32 → Int32 → Int32 → St → Prop
  | 0, _, _, _, _ => False
  | n + 1, v1, v2, v3, z0 => ((v3 ≤ v2) → Q z0) ∧ ((¬ v3 ≤ v2) → vp_in v2 12 ∧ ∀ z1 : St, z1 = wI z0 8 v2.toNatClampNeg v1 → ∀ x2 : Int32, x2 = v2 + 1 → L_A_fill6_5 Q n v1 x2 v3 z1)
def P_A_fill6 (a1 : Int32) (z0 : St) (Q : St → Prop) : Prop := ∃ k5 : Nat, L_A_fill6_5 Q k5 a1 (0 : Int32) (12 : Int32) z0
set_option maxHeartbeats 4000000 in
set_option maxRecDepth 100000 in
theorem wL_A_fill6_5 {Q : St → Prop} (E : En p l s m meth c args cc_A_fill2 4 R_A none G) :
    ∀ (n : Nat) (v1 : Int32) (v2 : Int32) (v3 : Int32) (z0 : St) (ls : Array Slot) (H : Heap) (locs : List Loc), L_A_fill6_5 Q n v1 v2 v3 z0 → lv_has ls 4 [(0, .ref (ha G 8)), (1, .int v1), (2, .int v2), (3, .int v3)] → Wd G z0 s.heap H locs → W p l e rm_A_fill6 s m args below meth c H locs 0 0 (MQ below (QvR Q G) args s 0 0 (fr G)) (F0 m 5 ls []) := by
  obtain ⟨hx, hb, hml, hown, hr, hlk, hex, hE⟩ := id E
  intro n
  induction n with
  | zero => exact fun _ _ _ _ _ _ _ hP _ _ => hP.elim
  | succ n ih =>
    intro v1 v2 v3 z0 ls H locs hP hl hW
    refine lv_iload_n hx hb d_A_fill2_5 rfl (lv_at hl 2 rfl) ?_
    refine lv_iload_n hx hb d_A_fill2_6 rfl (lv_at hl 3 rfl) ?_
    refine lv_icmp_ge (tgt := 20) hx hb d_A_fill2_7 rfl (fun hc => ?_) (fun hc => ?_)
    · have hP := hP.1 hc
      exact yr_v hx hb hr hlk hW hP d_A_fill2_20
    · have hP := hP.2 hc
      refine lv_aload_n hx hb d_A_fill2_10 rfl (lv_at hl 0 rfl) ?_
      refine lv_iload_n hx hb d_A_fill2_11 rfl (lv_at hl 2 rfl) ?_
      refine lv_iload_n hx hb d_A_fill2_12 rfl (lv_at hl 1 rfl) ?_
      refine ys_8 hx hb hE hW hP.1 d_A_fill2_13 (fun z1 H locs e_z1 hW => ?_)
      have hP := hP.2
      have hP := hP z1 e_z1
      obtain ⟨x2, e_x2⟩ : ∃ z : Int32, z = v2 + 1 := ⟨_, rfl⟩
      have hP := hP x2 e_x2
      refine lv_iinc (k := 2) (lv' := [(2, .int x2), (0, .ref (ha G 8)), (1, .int v1), (3, .int v3)]) hx hb d_A_fill2_14 hl rfl (ii_p1 e_x2) (by decide) rfl (fun ls hl => ?_)
      refine lv_goto (tgt := 5) hx hb d_A_fill2_17 rfl ?_
      exact ih _ _ _ _ _ _ _ hP (lv_sub hl [1, 2, 0, 3] rfl) hW
set_option maxHeartbeats 4000000 in
set_option maxRecDepth 100000 in
theorem c_A_fill6 {l : Launch} {G : GG} (a1 : Int32) (z0 : St) (Q : St → Prop) (hP : P_A_fill6 a1 z0 Q) : Ctv l y_A_fill2 cc_A_fill2 4 none rm_A_fill6 G [.ref (ha G 8), .int a1] z0 Q := by
  refine Ctv.op (own := R_A) (by decide) rfl (Nat.le_of_ble_eq_true rfl) (fun p e s m args below meth c ls E hl hW => ?_)
  obtain ⟨hx, hb, hml, hown, hr, hlk, hex, hE⟩ := id E
  have hl : lv_has ls 4 [(0, .ref (ha G 8)), (1, .int a1)] := hl
  refine lv_iconst (v := 0) hx hb d_A_fill2_0 (by decide) ?_
  refine lv_istore_n (lv' := [(2, .int (0 : Int32)), (0, .ref (ha G 8)), (1, .int a1)]) hx hb d_A_fill2_1 rfl hl (by decide) rfl (fun ls hl => ?_)
  refine lv_aload_n hx hb d_A_fill2_2 rfl (lv_at hl 1 rfl) ?_
  refine yn_8 hx hb hE hW d_A_fill2_3 ?_
  refine lv_istore_n (lv' := [(3, .int (12 : Int32)), (2, .int (0 : Int32)), (0, .ref (ha G 8)), (1, .int a1)]) hx hb d_A_fill2_4 rfl hl (by decide) rfl (fun ls hl => ?_)
  obtain ⟨n2, hP⟩ := hP
  refine wL_A_fill6_5 E n2 _ _ _ _ _ _ _ hP (lv_sub hl [2, 3, 1, 0] rfl) hW
theorem d_Q_clear_0 : decode cc_Q_clear 0 = .ok (.aload_n 0, 1) := by decide +kernel
theorem d_Q_clear_1 : decode cc_Q_clear 1 = .ok (.getfield 9, 3) := by decide +kernel
theorem d_Q_clear_4 : decode cc_Q_clear 4 = .ok (.iconst 0, 1) := by decide +kernel
theorem d_Q_clear_5 : decode cc_Q_clear 5 = .ok (.invokestatic 18, 3) := by decide +kernel
theorem d_Q_clear_8 : decode cc_Q_clear 8 = .ok (.aload_n 0, 1) := by decide +kernel
theorem d_Q_clear_9 : decode cc_Q_clear 9 = .ok (.getfield 15, 3) := by decide +kernel
theorem d_Q_clear_12 : decode cc_Q_clear 12 = .ok (.bipush 8, 2) := by decide +kernel
theorem d_Q_clear_14 : decode cc_Q_clear 14 = .ok (.invokestatic 18, 3) := by decide +kernel
theorem d_Q_clear_17 : decode cc_Q_clear 17 = .ok (.return_, 1) := by decide +kernel
def P_Q_clear (z0 : St) (Q : St → Prop) : Prop := P_A_fill5 (0 : Int32) z0 (fun (z1 : St) => P_A_fill6 (8 : Int32) z1 (fun (z2 : St) => Q z2))
set_option maxHeartbeats 4000000 in
set_option maxRecDepth 100000 in
theorem c_Q_clear {l : Launch} {G : GG} (z0 : St) (Q : St → Prop) (hP : P_Q_clear z0 Q) : Ctv l y_Q_clear cc_Q_clear 1 none rm_Q_clear G [.ref (ha G 6)] z0 Q := by
  refine Ctv.op (own := R_Q) (by decide) rfl (Nat.le_of_ble_eq_true rfl) (fun p e s m args below meth c ls E hl hW => ?_)
  obtain ⟨hx, hb, hml, hown, hr, hlk, hex, hE⟩ := id E
  have hl : lv_has ls 1 [(0, .ref (ha G 6))] := hl
  refine lv_aload_n hx hb d_Q_clear_0 rfl (lv_at hl 0 rfl) ?_
  refine ygf_6_0 hx hb hown hE hW (lk_Q_9 hE) d_Q_clear_1 ?_
  refine lv_iconst (v := 0) hx hb d_Q_clear_4 (by decide) ?_
  refine yc_v (yS (As := [.ref (ha G 7), .int (0 : Int32)]) (rest := []) E (c_A_fill5 _ _ _ hP) (cw_Q_18 hE) (by decide) hW hl.1 rfl rfl rfl d_Q_clear_5) hW (fun z1 H locs hP hW => ?_)
  refine lv_aload_n hx hb d_Q_clear_8 rfl (lv_at hl 0 rfl) ?_
  refine ygf_6_1 hx hb hown hE hW (lk_Q_15 hE) d_Q_clear_9 ?_
  refine lv_bipush (v := 8) hx hb d_Q_clear_12 (by decide) ?_
  refine yc_v (yS (As := [.ref (ha G 8), .int (8 : Int32)]) (rest := []) E (c_A_fill6 _ _ _ hP) (cw_Q_18 hE) (by decide) hW hl.1 rfl rfl rfl d_Q_clear_14) hW (fun z2 H locs hP hW => ?_)
  exact yr_v hx hb hr hlk hW hP d_Q_clear_17
theorem d_S_clear_0 : decode cc_S_clear 0 = .ok (.aload_n 0, 1) := by decide +kernel
theorem d_S_clear_1 : decode cc_S_clear 1 = .ok (.iconst 0, 1) := by decide +kernel
theorem d_S_clear_2 : decode cc_S_clear 2 = .ok (.putfield 21, 3) := by decide +kernel
theorem d_S_clear_5 : decode cc_S_clear 5 = .ok (.aload_n 0, 1) := by decide +kernel
theorem d_S_clear_6 : decode cc_S_clear 6 = .ok (.lconst 0, 1) := by decide +kernel
theorem d_S_clear_7 : decode cc_S_clear 7 = .ok (.putfield 25, 3) := by decide +kernel
theorem d_S_clear_10 : decode cc_S_clear 10 = .ok (.aload_n 0, 1) := by decide +kernel
theorem d_S_clear_11 : decode cc_S_clear 11 = .ok (.lconst 0, 1) := by decide +kernel
theorem d_S_clear_12 : decode cc_S_clear 12 = .ok (.putfield 29, 3) := by decide +kernel
theorem d_S_clear_15 : decode cc_S_clear 15 = .ok (.aload_n 0, 1) := by decide +kernel
theorem d_S_clear_16 : decode cc_S_clear 16 = .ok (.iconst (-1), 1) := by decide +kernel
theorem d_S_clear_17 : decode cc_S_clear 17 = .ok (.putfield 32, 3) := by decide +kernel
theorem d_S_clear_20 : decode cc_S_clear 20 = .ok (.return_, 1) := by decide +kernel
def P_S_clear (z0 : St) (Q : St → Prop) : Prop := ∀ z1 : St, z1 = wI z0 26 5 (0 : Int32) → ∀ z2 : St, z2 = wL z1 26 6 (0 : Int64) → ∀ z3 : St, z3 = wL z2 26 7 (0 : Int64) → ∀ z4 : St, z4 = wI z3 26 8 (-1 : Int32) → Q z4
set_option maxHeartbeats 4000000 in
set_option maxRecDepth 100000 in
theorem c_S_clear {l : Launch} {G : GG} (z0 : St) (Q : St → Prop) (hP : P_S_clear z0 Q) : Ctv l y_S_clear cc_S_clear 1 none rm_S_clear G [.ref (ha G 26)] z0 Q := by
  refine Ctv.op (own := R_S) (by decide) rfl (Nat.le_of_ble_eq_true rfl) (fun p e s m args below meth c ls E hl hW => ?_)
  obtain ⟨hx, hb, hml, hown, hr, hlk, hex, hE⟩ := id E
  have hl : lv_has ls 1 [(0, .ref (ha G 26))] := hl
  refine lv_aload_n hx hb d_S_clear_0 rfl (lv_at hl 0 rfl) ?_
  refine lv_iconst (v := 0) hx hb d_S_clear_1 (by decide) ?_
  refine ypf_26_5 hx hb hown hE hW (lk_S_21 hE) d_S_clear_2 (fun z1 H locs e_z1 hW => ?_)
  have hP := hP z1 e_z1
  refine lv_aload_n hx hb d_S_clear_5 rfl (lv_at hl 0 rfl) ?_
  refine lv_lconst (v := 0) hx hb d_S_clear_6 (by decide) ?_
  refine ypf_26_6 hx hb hown hE hW (lk_S_25 hE) d_S_clear_7 (fun z2 H locs e_z2 hW => ?_)
  have hP := hP z2 e_z2
  refine lv_aload_n hx hb d_S_clear_10 rfl (lv_at hl 0 rfl) ?_
  refine lv_lconst (v := 0) hx hb d_S_clear_11 (by decide) ?_
  refine ypf_26_7 hx hb hown hE hW (lk_S_29 hE) d_S_clear_12 (fun z3 H locs e_z3 hW => ?_)
  have hP := hP z3 e_z3
  refine lv_aload_n hx hb d_S_clear_15 rfl (lv_at hl 0 rfl) ?_
  refine lv_iconst (v := -1) hx hb d_S_clear_16 (by decide) ?_
  refine ypf_26_8 hx hb hown hE hW (lk_S_32 hE) d_S_clear_17 (fun z4 H locs e_z4 hW => ?_)
  have hP := hP z4 e_z4
  exact yr_v hx hb hr hlk hW hP d_S_clear_20
theorem d_O_reset_0 : decode cc_O_reset 0 = .ok (.aload_n 0, 1) := by decide +kernel
theorem d_O_reset_1 : decode cc_O_reset 1 = .ok (.getfield 12, 3) := by decide +kernel
theorem d_O_reset_4 : decode cc_O_reset 4 = .ok (.invokevirtual 283, 3) := by decide +kernel
theorem d_O_reset_7 : decode cc_O_reset 7 = .ok (.aload_n 0, 1) := by decide +kernel
theorem d_O_reset_8 : decode cc_O_reset 8 = .ok (.getfield 19, 3) := by decide +kernel
theorem d_O_reset_11 : decode cc_O_reset 11 = .ok (.invokevirtual 286, 3) := by decide +kernel
theorem d_O_reset_14 : decode cc_O_reset 14 = .ok (.aload_n 0, 1) := by decide +kernel
theorem d_O_reset_15 : decode cc_O_reset 15 = .ok (.getfield 60, 3) := by decide +kernel
theorem d_O_reset_18 : decode cc_O_reset 18 = .ok (.invokevirtual 287, 3) := by decide +kernel
theorem d_O_reset_21 : decode cc_O_reset 21 = .ok (.aload_n 0, 1) := by decide +kernel
theorem d_O_reset_22 : decode cc_O_reset 22 = .ok (.iconst 1, 1) := by decide +kernel
theorem d_O_reset_23 : decode cc_O_reset 23 = .ok (.putfield 68, 3) := by decide +kernel
theorem d_O_reset_26 : decode cc_O_reset 26 = .ok (.aload_n 0, 1) := by decide +kernel
theorem d_O_reset_27 : decode cc_O_reset 27 = .ok (.lconst 0, 1) := by decide +kernel
theorem d_O_reset_28 : decode cc_O_reset 28 = .ok (.putfield 72, 3) := by decide +kernel
theorem d_O_reset_31 : decode cc_O_reset 31 = .ok (.aload_n 0, 1) := by decide +kernel
theorem d_O_reset_32 : decode cc_O_reset 32 = .ok (.invokevirtual 100, 3) := by decide +kernel
theorem d_O_reset_35 : decode cc_O_reset 35 = .ok (.return_, 1) := by decide +kernel
def P_O_reset (z0 : St) (Q : St → Prop) : Prop := P_P_clear z0 (fun (z1 : St) => P_Q_clear z1 (fun (z2 : St) => P_S_clear z2 (fun (z3 : St) => ∀ z4 : St, z4 = wI z3 0 8 (1 : Int32) → ∀ z5 : St, z5 = wL z4 0 9 (0 : Int64) → P_O_changed z5 (fun (z6 : St) => Q z6))))
set_option maxHeartbeats 4000000 in
set_option maxRecDepth 100000 in
theorem c_O_reset {l : Launch} {G : GG} (z0 : St) (Q : St → Prop) (hP : P_O_reset z0 Q) : Ctv l y_O_reset cc_O_reset 1 none rm_O_reset G [.ref (ha G 0)] z0 Q := by
  refine Ctv.op (own := R_O) (by decide) rfl (Nat.le_of_ble_eq_true rfl) (fun p e s m args below meth c ls E hl hW => ?_)
  obtain ⟨hx, hb, hml, hown, hr, hlk, hex, hE⟩ := id E
  have hl : lv_has ls 1 [(0, .ref (ha G 0))] := hl
  refine lv_aload_n hx hb d_O_reset_0 rfl (lv_at hl 0 rfl) ?_
  refine ygf_0_0 hx hb hown hE hW (lk_O_12 hE) d_O_reset_1 ?_
  refine yc_v (yV (As := []) (rest := []) E (c_P_clear _ _ hP) (cw_O_283 hE) (yrv_1 hE hW) (by decide) hW hl.1 rfl rfl rfl d_O_reset_4) hW (fun z1 H locs hP hW => ?_)
  refine lv_aload_n hx hb d_O_reset_7 rfl (lv_at hl 0 rfl) ?_
  refine ygf_0_1 hx hb hown hE hW (lk_O_19 hE) d_O_reset_8 ?_
  refine yc_v (yV (As := []) (rest := []) E (c_Q_clear _ _ hP) (cw_O_286 hE) (yrv_6 hE hW) (by decide) hW hl.1 rfl rfl rfl d_O_reset_11) hW (fun z2 H locs hP hW => ?_)
  refine lv_aload_n hx hb d_O_reset_14 rfl (lv_at hl 0 rfl) ?_
  refine ygf_0_6 hx hb hown hE hW (lk_O_60 hE) d_O_reset_15 ?_
  refine yc_v (yV (As := []) (rest := []) E (c_S_clear _ _ hP) (cw_O_287 hE) (yrv_26 hE hW) (by decide) hW hl.1 rfl rfl rfl d_O_reset_18) hW (fun z3 H locs hP hW => ?_)
  refine lv_aload_n hx hb d_O_reset_21 rfl (lv_at hl 0 rfl) ?_
  refine lv_iconst (v := 1) hx hb d_O_reset_22 (by decide) ?_
  refine ypf_0_8 hx hb hown hE hW (lk_O_68 hE) d_O_reset_23 (fun z4 H locs e_z4 hW => ?_)
  have hP := hP z4 e_z4
  refine lv_aload_n hx hb d_O_reset_26 rfl (lv_at hl 0 rfl) ?_
  refine lv_lconst (v := 0) hx hb d_O_reset_27 (by decide) ?_
  refine ypf_0_9 hx hb hown hE hW (lk_O_72 hE) d_O_reset_28 (fun z5 H locs e_z5 hW => ?_)
  have hP := hP z5 e_z5
  refine lv_aload_n hx hb d_O_reset_31 rfl (lv_at hl 0 rfl) ?_
  refine yc_v (yV (As := []) (rest := []) E (c_O_changed _ _ hP) (cw_O_100 hE) (yrv_0 hE hW) (by decide) hW hl.1 rfl rfl rfl d_O_reset_32) hW (fun z6 H locs hP hW => ?_)
  exact yr_v hx hb hr hlk hW hP d_O_reset_35
theorem d_M_thrown_0 : decode cc_M_thrown 0 = .ok (.aload_n 0, 1) := by decide +kernel
theorem d_M_thrown_1 : decode cc_M_thrown 1 = .ok (.getfield 70, 3) := by decide +kernel
theorem d_M_thrown_4 : decode cc_M_thrown 4 = .ok (.ireturn, 1) := by decide +kernel
def P_M_thrown (z0 : St) (Q : Int32 → St → Prop) : Prop := Q (z0.1 31 0) z0
set_option maxHeartbeats 4000000 in
set_option maxRecDepth 100000 in
theorem c_M_thrown {l : Launch} {G : GG} (z0 : St) (Q : Int32 → St → Prop) (hP : P_M_thrown z0 Q) : Cti l y_M_thrown cc_M_thrown 1 (some .int) rm_M_thrown G [.ref (ha G 31)] z0 Q := by
  refine Cti.op (own := R_M) (by decide) rfl (Nat.le_of_ble_eq_true rfl) (fun p e s m args below meth c ls E hl hW => ?_)
  obtain ⟨hx, hb, hml, hown, hr, hlk, hex, hE⟩ := id E
  have hl : lv_has ls 1 [(0, .ref (ha G 31))] := hl
  refine lv_aload_n hx hb d_M_thrown_0 rfl (lv_at hl 0 rfl) ?_
  refine ygf_31_0 hx hb hown hE hW (lk_M_70 hE) d_M_thrown_1 ?_
  exact yr_i hx hb hr hlk hW hP d_M_thrown_4
theorem d_M_isTrait_0 : decode cc_M_isTrait 0 = .ok (.iload_n 0, 1) := by decide +kernel
theorem d_M_isTrait_1 : decode cc_M_isTrait 1 = .ok (.ifCond .lt 12, 3) := by decide +kernel
theorem d_M_isTrait_4 : decode cc_M_isTrait 4 = .ok (.iload_n 0, 1) := by decide +kernel
theorem d_M_isTrait_5 : decode cc_M_isTrait 5 = .ok (.iconst 3, 1) := by decide +kernel
theorem d_M_isTrait_6 : decode cc_M_isTrait 6 = .ok (.if_icmp .ge 7, 3) := by decide +kernel
theorem d_M_isTrait_9 : decode cc_M_isTrait 9 = .ok (.iconst 1, 1) := by decide +kernel
theorem d_M_isTrait_10 : decode cc_M_isTrait 10 = .ok (.goto 4, 3) := by decide +kernel
theorem d_M_isTrait_13 : decode cc_M_isTrait 13 = .ok (.iconst 0, 1) := by decide +kernel
theorem d_M_isTrait_14 : decode cc_M_isTrait 14 = .ok (.ireturn, 1) := by decide +kernel
def P_M_isTrait (a0 : Int32) (z0 : St) (Q : Int32 → St → Prop) : Prop := ((a0 < 0) → Q (0 : Int32) z0) ∧ ((¬ a0 < 0) → (((3 : Int32) ≤ a0) → Q (0 : Int32) z0) ∧ ((¬ (3 : Int32) ≤ a0) → Q (1 : Int32) z0))
set_option maxHeartbeats 4000000 in
set_option maxRecDepth 100000 in
theorem c_M_isTrait {l : Launch} {G : GG} (a0 : Int32) (z0 : St) (Q : Int32 → St → Prop) (hP : P_M_isTrait a0 z0 Q) : Cti l y_M_isTrait cc_M_isTrait 1 (some .boolean) rm_M_isTrait G [.int a0] z0 Q := by
  refine Cti.op (own := R_M) (by decide) rfl (Nat.le_of_ble_eq_true rfl) (fun p e s m args below meth c ls E hl hW => ?_)
  obtain ⟨hx, hb, hml, hown, hr, hlk, hex, hE⟩ := id E
  have hl : lv_has ls 1 [(0, .int a0)] := hl
  refine lv_iload_n hx hb d_M_isTrait_0 rfl (lv_at hl 0 rfl) ?_
  refine lv_if_lt (tgt := 13) hx hb d_M_isTrait_1 rfl (fun hc => ?_) (fun hc => ?_)
  · have hP := hP.1 hc
    refine lv_iconst (v := 0) hx hb d_M_isTrait_13 (by decide) ?_
    exact yr_z hx hb hr hlk hW zb_0 hP d_M_isTrait_14
  · have hP := hP.2 hc
    refine lv_iload_n hx hb d_M_isTrait_4 rfl (lv_at hl 0 rfl) ?_
    refine lv_iconst (v := 3) hx hb d_M_isTrait_5 (by decide) ?_
    refine lv_icmp_ge (tgt := 13) hx hb d_M_isTrait_6 rfl (fun hc => ?_) (fun hc => ?_)
    · have hP := hP.1 hc
      refine lv_iconst (v := 0) hx hb d_M_isTrait_13 (by decide) ?_
      exact yr_z hx hb hr hlk hW zb_0 hP d_M_isTrait_14
    · have hP := hP.2 hc
      refine lv_iconst (v := 1) hx hb d_M_isTrait_9 (by decide) ?_
      refine lv_goto (tgt := 14) hx hb d_M_isTrait_10 rfl ?_
      exact yr_z hx hb hr hlk hW zb_1 hP d_M_isTrait_14
theorem d_M_is_0 : decode cc_M_is 0 = .ok (.bipush 16, 2) := by decide +kernel
theorem d_M_is_2 : decode cc_M_is 2 = .ok (.aload_n 0, 1) := by decide +kernel
theorem d_M_is_3 : decode cc_M_is 3 = .ok (.getfield 7, 3) := by decide +kernel
theorem d_M_is_6 : decode cc_M_is 6 = .ok (.iconst 3, 1) := by decide +kernel
theorem d_M_is_7 : decode cc_M_is 7 = .ok (.iload_n 1, 1) := by decide +kernel
theorem d_M_is_8 : decode cc_M_is 8 = .ok (.imul, 1) := by decide +kernel
theorem d_M_is_9 : decode cc_M_is 9 = .ok (.iaload, 1) := by decide +kernel
theorem d_M_is_10 : decode cc_M_is 10 = .ok (.imul, 1) := by decide +kernel
theorem d_M_is_11 : decode cc_M_is 11 = .ok (.iconst 4, 1) := by decide +kernel
theorem d_M_is_12 : decode cc_M_is 12 = .ok (.aload_n 0, 1) := by decide +kernel
theorem d_M_is_13 : decode cc_M_is 13 = .ok (.getfield 7, 3) := by decide +kernel
theorem d_M_is_16 : decode cc_M_is 16 = .ok (.iconst 3, 1) := by decide +kernel
theorem d_M_is_17 : decode cc_M_is 17 = .ok (.iload_n 1, 1) := by decide +kernel
theorem d_M_is_18 : decode cc_M_is 18 = .ok (.imul, 1) := by decide +kernel
theorem d_M_is_19 : decode cc_M_is 19 = .ok (.iconst 1, 1) := by decide +kernel
theorem d_M_is_20 : decode cc_M_is 20 = .ok (.iadd, 1) := by decide +kernel
theorem d_M_is_21 : decode cc_M_is 21 = .ok (.iaload, 1) := by decide +kernel
theorem d_M_is_22 : decode cc_M_is 22 = .ok (.imul, 1) := by decide +kernel
theorem d_M_is_23 : decode cc_M_is 23 = .ok (.iadd, 1) := by decide +kernel
theorem d_M_is_24 : decode cc_M_is 24 = .ok (.aload_n 0, 1) := by decide +kernel
theorem d_M_is_25 : decode cc_M_is 25 = .ok (.getfield 7, 3) := by decide +kernel
theorem d_M_is_28 : decode cc_M_is 28 = .ok (.iconst 3, 1) := by decide +kernel
theorem d_M_is_29 : decode cc_M_is 29 = .ok (.iload_n 1, 1) := by decide +kernel
theorem d_M_is_30 : decode cc_M_is 30 = .ok (.imul, 1) := by decide +kernel
theorem d_M_is_31 : decode cc_M_is 31 = .ok (.iconst 2, 1) := by decide +kernel
theorem d_M_is_32 : decode cc_M_is 32 = .ok (.iadd, 1) := by decide +kernel
theorem d_M_is_33 : decode cc_M_is 33 = .ok (.iaload, 1) := by decide +kernel
theorem d_M_is_34 : decode cc_M_is 34 = .ok (.iadd, 1) := by decide +kernel
theorem d_M_is_35 : decode cc_M_is 35 = .ok (.ireturn, 1) := by decide +kernel
def P_M_is (a1 : Int32) (z0 : St) (Q : Int32 → St → Prop) : Prop := vp_in ((3 : Int32) * a1) 120 ∧ vp_in (((3 : Int32) * a1) + (1 : Int32)) 120 ∧ vp_in (((3 : Int32) * a1) + (2 : Int32)) 120 ∧ Q ((((16 : Int32) * (z0.1 32 ((3 : Int32) * a1).toNatClampNeg)) + ((4 : Int32) * (z0.1 32 (((3 : Int32) * a1) + (1 : Int32)).toNatClampNeg))) + (z0.1 32 (((3 : Int32) * a1) + (2 : Int32)).toNatClampNeg)) z0
set_option maxHeartbeats 4000000 in
set_option maxRecDepth 100000 in
theorem c_M_is {l : Launch} {G : GG} (a1 : Int32) (z0 : St) (Q : Int32 → St → Prop) (hP : P_M_is a1 z0 Q) : Cti l y_M_is cc_M_is 2 (some .int) rm_M_is G [.ref (ha G 31), .int a1] z0 Q := by
  refine Cti.op (own := R_M) (by decide) rfl (Nat.le_of_ble_eq_true rfl) (fun p e s m args below meth c ls E hl hW => ?_)
  obtain ⟨hx, hb, hml, hown, hr, hlk, hex, hE⟩ := id E
  have hl : lv_has ls 2 [(0, .ref (ha G 31)), (1, .int a1)] := hl
  refine lv_bipush (v := 16) hx hb d_M_is_0 (by decide) ?_
  refine lv_aload_n hx hb d_M_is_2 rfl (lv_at hl 0 rfl) ?_
  refine ygf_31_2 hx hb hown hE hW (lk_M_7 hE) d_M_is_3 ?_
  refine lv_iconst (v := 3) hx hb d_M_is_6 (by decide) ?_
  refine lv_iload_n hx hb d_M_is_7 rfl (lv_at hl 1 rfl) ?_
  refine lv_imul hx hb d_M_is_8 ?_
  refine ya_32 hx hb hE hW hP.1 d_M_is_9 ?_
  have hP := hP.2
  refine lv_imul hx hb d_M_is_10 ?_
  refine lv_iconst (v := 4) hx hb d_M_is_11 (by decide) ?_
  refine lv_aload_n hx hb d_M_is_12 rfl (lv_at hl 0 rfl) ?_
  refine ygf_31_2 hx hb hown hE hW (lk_M_7 hE) d_M_is_13 ?_
  refine lv_iconst (v := 3) hx hb d_M_is_16 (by decide) ?_
  refine lv_iload_n hx hb d_M_is_17 rfl (lv_at hl 1 rfl) ?_
  refine lv_imul hx hb d_M_is_18 ?_
  refine lv_iconst (v := 1) hx hb d_M_is_19 (by decide) ?_
  refine lv_iadd hx hb d_M_is_20 ?_
  refine ya_32 hx hb hE hW hP.1 d_M_is_21 ?_
  have hP := hP.2
  refine lv_imul hx hb d_M_is_22 ?_
  refine lv_iadd hx hb d_M_is_23 ?_
  refine lv_aload_n hx hb d_M_is_24 rfl (lv_at hl 0 rfl) ?_
  refine ygf_31_2 hx hb hown hE hW (lk_M_7 hE) d_M_is_25 ?_
  refine lv_iconst (v := 3) hx hb d_M_is_28 (by decide) ?_
  refine lv_iload_n hx hb d_M_is_29 rfl (lv_at hl 1 rfl) ?_
  refine lv_imul hx hb d_M_is_30 ?_
  refine lv_iconst (v := 2) hx hb d_M_is_31 (by decide) ?_
  refine lv_iadd hx hb d_M_is_32 ?_
  refine ya_32 hx hb hE hW hP.1 d_M_is_33 ?_
  have hP := hP.2
  refine lv_iadd hx hb d_M_is_34 ?_
  exact yr_i hx hb hr hlk hW hP d_M_is_35
end Code
