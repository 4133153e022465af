/-! M_isCandidate, M_candidates, M_goalNow, M_dice, M_roll, M_number, M_used, M_draw, M_member, M_dropOut, M_candidateAt, M_candidate -/
section Code
variable {p : Program} {l : Launch} {e : Env} {s : State} {m : MethodId} {args : Array Value} {below : List Frame} {meth : Method} {c : Code} {G : GG}
theorem d_M_isCandidate_0 : decode cc_M_isCandidate 0 = .ok (.aload_n 0, 1) := by decide +kernel
theorem d_M_isCandidate_1 : decode cc_M_isCandidate 1 = .ok (.getfield 58, 3) := by decide +kernel
theorem d_M_isCandidate_4 : decode cc_M_isCandidate 4 = .ok (.iload_n 1, 1) := by decide +kernel
theorem d_M_isCandidate_5 : decode cc_M_isCandidate 5 = .ok (.baload, 1) := by decide +kernel
theorem d_M_isCandidate_6 : decode cc_M_isCandidate 6 = .ok (.ifCond .ne 25, 3) := by decide +kernel
theorem d_M_isCandidate_9 : decode cc_M_isCandidate 9 = .ok (.aload_n 0, 1) := by decide +kernel
theorem d_M_isCandidate_10 : decode cc_M_isCandidate 10 = .ok (.iload_n 1, 1) := by decide +kernel
theorem d_M_isCandidate_11 : decode cc_M_isCandidate 11 = .ok (.invokevirtual 215, 3) := by decide +kernel
theorem d_M_isCandidate_14 : decode cc_M_isCandidate 14 = .ok (.iconst (-1), 1) := by decide +kernel
theorem d_M_isCandidate_15 : decode cc_M_isCandidate 15 = .ok (.if_icmp .ne 16, 3) := by decide +kernel
theorem d_M_isCandidate_18 : decode cc_M_isCandidate 18 = .ok (.aload_n 0, 1) := by decide +kernel
theorem d_M_isCandidate_19 : decode cc_M_isCandidate 19 = .ok (.iload_n 1, 1) := by decide +kernel
theorem d_M_isCandidate_20 : decode cc_M_isCandidate 20 = .ok (.invokevirtual 218, 3) := by decide +kernel
theorem d_M_isCandidate_23 : decode cc_M_isCandidate 23 = .ok (.iload_n 2, 1) := by decide +kernel
theorem d_M_isCandidate_24 : decode cc_M_isCandidate 24 = .ok (.if_icmp .ne 7, 3) := by decide +kernel
theorem d_M_isCandidate_27 : decode cc_M_isCandidate 27 = .ok (.iconst 1, 1) := by decide +kernel
theorem d_M_isCandidate_28 : decode cc_M_isCandidate 28 = .ok (.goto 4, 3) := by decide +kernel
theorem d_M_isCandidate_31 : decode cc_M_isCandidate 31 = .ok (.iconst 0, 1) := by decide +kernel
theorem d_M_isCandidate_32 : decode cc_M_isCandidate 32 = .ok (.ireturn, 1) := by decide +kernel
def P_M_isCandidate (a1 : Int32) (a2 : Int32) (z0 : St) (Q : Int32 → St → Prop) : Prop := vp_in a1 40 ∧ ((¬ (z0.1 45 a1.toNatClampNeg) = 0) → Q (0 : Int32) z0) ∧ (((z0.1 45 a1.toNatClampNeg) = 0) → P_M_placeOf a1 z0 (fun (x2 : Int32) (z1 : St) => ((¬ x2 = (-1 : Int32)) → Q (0 : Int32) z1) ∧ ((x2 = (-1 : Int32)) → P_M_breachWith a1 z1 (fun (x4 : Int32) (z3 : St) => ((¬ x4 = a2) → Q (0 : Int32) z3) ∧ ((x4 = a2) → Q (1 : Int32) z3)))))
set_option maxHeartbeats 4000000 in
set_option maxRecDepth 100000 in
theorem c_M_isCandidate {l : Launch} {G : GG} (a1 : Int32) (a2 : Int32) (z0 : St) (Q : Int32 → St → Prop) (hP : P_M_isCandidate a1 a2 z0 Q) : Cti l y_M_isCandidate cc_M_isCandidate 3 (some .boolean) rm_M_isCandidate G [.ref (ha G 31), .int a1, .int a2] z0 Q := by
  refine Cti.op (own := R_M) (by decide) rfl (Nat.le_of_ble_eq_true rfl) (fun p e s m args below meth c ls E hl hW => ?_)
  obtain ⟨hx, hb, hml, hown, hr, hlk, hex, hE⟩ := id E
  have hl : lv_has ls 3 [(0, .ref (ha G 31)), (1, .int a1), (2, .int a2)] := hl
  refine lv_aload_n hx hb d_M_isCandidate_0 rfl (lv_at hl 0 rfl) ?_
  refine ygf_31_22 hx hb hown hE hW (lk_M_58 hE) d_M_isCandidate_1 ?_
  refine lv_iload_n hx hb d_M_isCandidate_4 rfl (lv_at hl 1 rfl) ?_
  refine ya_45 hx hb hE hW hP.1 d_M_isCandidate_5 ?_
  have hP := hP.2
  refine lv_if_ne (tgt := 31) hx hb d_M_isCandidate_6 rfl (fun hc => ?_) (fun hc => ?_)
  · have hP := hP.1 hc
    refine lv_iconst (v := 0) hx hb d_M_isCandidate_31 (by decide) ?_
    exact yr_z hx hb hr hlk hW zb_0 hP d_M_isCandidate_32
  · have hP := hP.2 hc
    refine lv_aload_n hx hb d_M_isCandidate_9 rfl (lv_at hl 0 rfl) ?_
    refine lv_iload_n hx hb d_M_isCandidate_10 rfl (lv_at hl 1 rfl) ?_
    refine yc_i (yV (As := [.int a1]) (rest := []) E (c_M_placeOf _ _ _ hP) (cw_M_215 hE) (yrv_31 hE hW) (by decide) hW hl.1 rfl rfl rfl d_M_isCandidate_11) hW (fun x2 z1 H locs hP hW => ?_)
    refine lv_iconst (v := -1) hx hb d_M_isCandidate_14 (by decide) ?_
    refine lv_icmp_ne (tgt := 31) hx hb d_M_isCandidate_15 rfl (fun hc => ?_) (fun hc => ?_)
    · have hP := hP.1 hc
      refine lv_iconst (v := 0) hx hb d_M_isCandidate_31 (by decide) ?_
      exact yr_z hx hb hr hlk hW zb_0 hP d_M_isCandidate_32
    · have hP := hP.2 hc
      refine lv_aload_n hx hb d_M_isCandidate_18 rfl (lv_at hl 0 rfl) ?_
      refine lv_iload_n hx hb d_M_isCandidate_19 rfl (lv_at hl 1 rfl) ?_
      refine yc_i (yV (As := [.int a1]) (rest := []) E (c_M_breachWith _ _ _ hP) (cw_M_218 hE) (yrv_31 hE hW) (by decide) hW hl.1 rfl rfl rfl d_M_isCandidate_20) hW (fun x4 z3 H locs hP hW => ?_)
      refine lv_iload_n hx hb d_M_isCandidate_23 rfl (lv_at hl 2 rfl) ?_
      refine lv_icmp_ne (tgt := 31) hx hb d_M_isCandidate_24 rfl (fun hc => ?_) (fun hc => ?_)
      · have hP := hP.1 hc
        refine lv_iconst (v := 0) hx hb d_M_isCandidate_31 (by decide) ?_
        exact yr_z hx hb hr hlk hW zb_0 hP d_M_isCandidate_32
      · have hP := hP.2 hc
        refine lv_iconst (v := 1) hx hb d_M_isCandidate_27 (by decide) ?_
        refine lv_goto (tgt := 32) hx hb d_M_isCandidate_28 rfl ?_
        exact yr_z hx hb hr hlk hW zb_1 hP d_M_isCandidate_32
theorem d_M_candidates_0 : decode cc_M_candidates 0 = .ok (.aload_n 0, 1) := by decide +kernel
theorem d_M_candidates_1 : decode cc_M_candidates 1 = .ok (.invokevirtual 221, 3) := by decide +kernel
theorem d_M_candidates_4 : decode cc_M_candidates 4 = .ok (.istore_n 1, 1) := by decide +kernel
theorem d_M_candidates_5 : decode cc_M_candidates 5 = .ok (.iconst 0, 1) := by decide +kernel
theorem d_M_candidates_6 : decode cc_M_candidates 6 = .ok (.istore_n 2, 1) := by decide +kernel
theorem d_M_candidates_7 : decode cc_M_candidates 7 = .ok (.iconst 0, 1) := by decide +kernel
theorem d_M_candidates_8 : decode cc_M_candidates 8 = .ok (.istore_n 3, 1) := by decide +kernel
theorem d_M_candidates_9 : decode cc_M_candidates 9 = .ok (.iload_n 3, 1) := by decide +kernel
theorem d_M_candidates_10 : decode cc_M_candidates 10 = .ok (.aload_n 0, 1) := by decide +kernel
theorem d_M_candidates_11 : decode cc_M_candidates 11 = .ok (.getfield 76, 3) := by decide +kernel
theorem d_M_candidates_14 : decode cc_M_candidates 14 = .ok (.if_icmp .ge 26, 3) := by decide +kernel
theorem d_M_candidates_17 : decode cc_M_candidates 17 = .ok (.iload_n 2, 1) := by decide +kernel
theorem d_M_candidates_18 : decode cc_M_candidates 18 = .ok (.aload_n 0, 1) := by decide +kernel
theorem d_M_candidates_19 : decode cc_M_candidates 19 = .ok (.iload_n 3, 1) := by decide +kernel
theorem d_M_candidates_20 : decode cc_M_candidates 20 = .ok (.iload_n 1, 1) := by decide +kernel
theorem d_M_candidates_21 : decode cc_M_candidates 21 = .ok (.invokevirtual 224, 3) := by decide +kernel
theorem d_M_candidates_24 : decode cc_M_candidates 24 = .ok (.ifCond .eq 7, 3) := by decide +kernel
theorem d_M_candidates_27 : decode cc_M_candidates 27 = .ok (.iconst 1, 1) := by decide +kernel
theorem d_M_candidates_28 : decode cc_M_candidates 28 = .ok (.goto 4, 3) := by decide +kernel
theorem d_M_candidates_31 : decode cc_M_candidates 31 = .ok (.iconst 0, 1) := by decide +kernel
theorem d_M_candidates_32 : decode cc_M_candidates 32 = .ok (.iadd, 1) := by decide +kernel
theorem d_M_candidates_33 : decode cc_M_candidates 33 = .ok (.istore_n 2, 1) := by decide +kernel
theorem d_M_candidates_34 : decode cc_M_candidates 34 = .ok (.iinc 3 1, 3) := by decide +kernel
theorem d_M_candidates_37 : decode cc_M_candidates 37 = .ok (.goto (-28), 3) := by decide +kernel
theorem d_M_candidates_40 : decode cc_M_candidates 40 = .ok (.iload_n 2, 1) := by decide +kernel
theorem d_M_candidates_41 : decode cc_M_candidates 41 = .ok (.ireturn, 1) := by decide +kernel
def L_M_candidates_9 (Q : Int32 → St → Prop) : Nat → Int32 → Int32 → Int32 → St → Prop
  | 0, _, _, _, _ => False
  | n + 1, v1, v2, v3, z0 => (((z0.1 31 1) ≤ v3) → Q v2 z0) ∧ ((¬ (z0.1 31 1) ≤ v3) → P_M_isCandidate v3 v1 z0 (fun (x4 : Int32) (z3 : St) => ((x4 = 0) → ∀ x5 : Int32, x5 = v2 + (0 : Int32) → ∀ x6 : Int32, x6 = v3 + 1 → L_M_candidates_9 Q n v1 x5 x6 z3) ∧ ((¬ x4 = 0) → ∀ x7 : Int32, x7 = v2 + (1 : Int32) → ∀ x8 : Int32, x8 = v3 + 1 → L_M_candidates_9 Q n v1 x7 x8 z3)))
def P_M_candidates (z0 : St) (Q : Int32 → St → Prop) : Prop := P_M_leastBreach z0 (fun (x2 : Int32) (z1 : St) => ∃ k9 : Nat, L_M_candidates_9 Q k9 x2 (0 : Int32) (0 : Int32) z1)
set_option maxHeartbeats 4000000 in
set_option maxRecDepth 100000 in
theorem wL_M_candidates_9 {Q : Int32 → St → Prop} (E : En p l s m meth c args cc_M_candidates 4 R_M (some .int) G) :
    ∀ (n : Nat) (v1 : Int32) (v2 : Int32) (v3 : Int32) (z0 : St) (ls : Array Slot) (H : Heap) (locs : List Loc), L_M_candidates_9 Q n v1 v2 v3 z0 → lv_has ls 4 [(0, .ref (ha G 31)), (1, .int v1), (2, .int v2), (3, .int v3)] → Wd G z0 s.heap H locs → W p l e rm_M_candidates s m args below meth c H locs 0 0 (MQ below (QiR Q G) args s 0 0 (fr G)) (F0 m 9 ls []) := by
  obtain ⟨hx, hb, hml, hown, hr, hlk, hex, hE⟩ := id E
  intro n
  induction n with
  | zero => exact fun _ _ _ _ _ _ _ hP _ _ => hP.elim
  | succ n ih =>
    intro v1 v2 v3 z0 ls H locs hP hl hW
    refine lv_iload_n hx hb d_M_candidates_9 rfl (lv_at hl 3 rfl) ?_
    refine lv_aload_n hx hb d_M_candidates_10 rfl (lv_at hl 0 rfl) ?_
    refine ygf_31_1 hx hb hown hE hW (lk_M_76 hE) d_M_candidates_11 ?_
    refine lv_icmp_ge (tgt := 40) hx hb d_M_candidates_14 rfl (fun hc => ?_) (fun hc => ?_)
    · have hP := hP.1 hc
      refine lv_iload_n hx hb d_M_candidates_40 rfl (lv_at hl 2 rfl) ?_
      exact yr_i hx hb hr hlk hW hP d_M_candidates_41
    · have hP := hP.2 hc
      refine lv_iload_n hx hb d_M_candidates_17 rfl (lv_at hl 2 rfl) ?_
      refine lv_aload_n hx hb d_M_candidates_18 rfl (lv_at hl 0 rfl) ?_
      refine lv_iload_n hx hb d_M_candidates_19 rfl (lv_at hl 3 rfl) ?_
      refine lv_iload_n hx hb d_M_candidates_20 rfl (lv_at hl 1 rfl) ?_
      refine yc_i (yV (As := [.int v3, .int v1]) (rest := [.int v2]) E (c_M_isCandidate _ _ _ _ hP) (cw_M_224 hE) (yrv_31 hE hW) (by decide) hW hl.1 rfl rfl rfl d_M_candidates_21) hW (fun x4 z3 H locs hP hW => ?_)
      refine lv_if_eq (tgt := 31) hx hb d_M_candidates_24 rfl (fun hc => ?_) (fun hc => ?_)
      · have hP := hP.1 hc
        refine lv_iconst (v := 0) hx hb d_M_candidates_31 (by decide) ?_
        refine lv_iadd hx hb d_M_candidates_32 ?_
        refine lv_topi (fun x5 e_x5 => ?_)
        have hP := hP x5 e_x5
        refine lv_istore_n (lv' := [(2, .int x5), (0, .ref (ha G 31)), (1, .int v1), (3, .int v3)]) hx hb d_M_candidates_33 rfl hl (by decide) rfl (fun ls hl => ?_)
        obtain ⟨x6, e_x6⟩ : ∃ z : Int32, z = v3 + 1 := ⟨_, rfl⟩
        have hP := hP x6 e_x6
        refine lv_iinc (k := 3) (lv' := [(3, .int x6), (2, .int x5), (0, .ref (ha G 31)), (1, .int v1)]) hx hb d_M_candidates_34 hl rfl (ii_p1 e_x6) (by decide) rfl (fun ls hl => ?_)
        refine lv_goto (tgt := 9) hx hb d_M_candidates_37 rfl ?_
        exact ih _ _ _ _ _ _ _ hP (lv_sub hl [2, 3, 1, 0] rfl) hW
      · have hP := hP.2 hc
        refine lv_iconst (v := 1) hx hb d_M_candidates_27 (by decide) ?_
        refine lv_goto (tgt := 32) hx hb d_M_candidates_28 rfl ?_
        refine lv_iadd hx hb d_M_candidates_32 ?_
        refine lv_topi (fun x7 e_x7 => ?_)
        have hP := hP x7 e_x7
        refine lv_istore_n (lv' := [(2, .int x7), (0, .ref (ha G 31)), (1, .int v1), (3, .int v3)]) hx hb d_M_candidates_33 rfl hl (by decide) rfl (fun ls hl => ?_)
        obtain ⟨x8, e_x8⟩ : ∃ z : Int32, z = v3 + 1 := ⟨_, rfl⟩
        have hP := hP x8 e_x8
        refine lv_iinc (k := 3) (lv' := [(3, .int x8), (2, .int x7), (0, .ref (ha G 31)), (1, .int v1)]) hx hb d_M_candidates_34 hl rfl (ii_p1 e_x8) (by decide) rfl (fun ls hl => ?_)
        refine lv_goto (tgt := 9) hx hb d_M_candidates_37 rfl ?_
        exact ih _ _ _ _ _ _ _ hP (lv_sub hl [2, 3, 1, 0] rfl) hW
set_option maxHeartbeats 4000000 in
set_option maxRecDepth 100000 in
theorem c_M_candidates {l : Launch} {G : GG} (z0 : St) (Q : Int32 → St → Prop) (hP : P_M_candidates z0 Q) : Cti l y_M_candidates cc_M_candidates 4 (some .int) rm_M_candidates G [.ref (ha G 31)] z0 Q := by
  refine Cti.op (own := R_M) (by decide) rfl (Nat.le_of_ble_eq_true rfl) (fun p e s m args below meth c ls E hl hW => ?_)
  obtain ⟨hx, hb, hml, hown, hr, hlk, hex, hE⟩ := id E
  have hl : lv_has ls 4 [(0, .ref (ha G 31))] := hl
  refine lv_aload_n hx hb d_M_candidates_0 rfl (lv_at hl 0 rfl) ?_
  refine yc_i (yV (As := []) (rest := []) E (c_M_leastBreach _ _ hP) (cw_M_221 hE) (yrv_31 hE hW) (by decide) hW hl.1 rfl rfl rfl d_M_candidates_1) hW (fun x2 z1 H locs hP hW => ?_)
  refine lv_istore_n (lv' := [(1, .int x2), (0, .ref (ha G 31))]) hx hb d_M_candidates_4 rfl hl (by decide) rfl (fun ls hl => ?_)
  refine lv_iconst (v := 0) hx hb d_M_candidates_5 (by decide) ?_
  refine lv_istore_n (lv' := [(2, .int (0 : Int32)), (1, .int x2), (0, .ref (ha G 31))]) hx hb d_M_candidates_6 rfl hl (by decide) rfl (fun ls hl => ?_)
  refine lv_iconst (v := 0) hx hb d_M_candidates_7 (by decide) ?_
  refine lv_istore_n (lv' := [(3, .int (0 : Int32)), (2, .int (0 : Int32)), (1, .int x2), (0, .ref (ha G 31))]) hx hb d_M_candidates_8 rfl hl (by decide) rfl (fun ls hl => ?_)
  obtain ⟨n2, hP⟩ := hP
  refine wL_M_candidates_9 E n2 _ _ _ _ _ _ _ hP (lv_sub hl [3, 2, 1, 0] rfl) hW
theorem d_M_goalNow_0 : decode cc_M_goalNow 0 = .ok (.aload_n 0, 1) := by decide +kernel
theorem d_M_goalNow_1 : decode cc_M_goalNow 1 = .ok (.getfield 100, 3) := by decide +kernel
theorem d_M_goalNow_4 : decode cc_M_goalNow 4 = .ok (.ifCond .eq 11, 3) := by decide +kernel
theorem d_M_goalNow_7 : decode cc_M_goalNow 7 = .ok (.aload_n 0, 1) := by decide +kernel
theorem d_M_goalNow_8 : decode cc_M_goalNow 8 = .ok (.invokevirtual 185, 3) := by decide +kernel
theorem d_M_goalNow_11 : decode cc_M_goalNow 11 = .ok (.i2l, 1) := by decide +kernel
theorem d_M_goalNow_12 : decode cc_M_goalNow 12 = .ok (.goto 9, 3) := by decide +kernel
theorem d_M_goalNow_15 : decode cc_M_goalNow 15 = .ok (.aload_n 0, 1) := by decide +kernel
theorem d_M_goalNow_16 : decode cc_M_goalNow 16 = .ok (.getfield 43, 3) := by decide +kernel
theorem d_M_goalNow_19 : decode cc_M_goalNow 19 = .ok (.iconst 0, 1) := by decide +kernel
theorem d_M_goalNow_20 : decode cc_M_goalNow 20 = .ok (.laload, 1) := by decide +kernel
theorem d_M_goalNow_21 : decode cc_M_goalNow 21 = .ok (.lreturn, 1) := by decide +kernel
def P_M_goalNow (z0 : St) (Q : Int64 → St → Prop) : Prop := (((z0.1 31 19) = 0) → vp_in (0 : Int32) 1010 ∧ Q (z0.2 41 (0 : Int32).toNatClampNeg) z0) ∧ ((¬ (z0.1 31 19) = 0) → P_M_candidates z0 (fun (x2 : Int32) (z1 : St) => Q x2.toInt64 z1))
set_option maxHeartbeats 4000000 in
set_option maxRecDepth 100000 in
theorem c_M_goalNow {l : Launch} {G : GG} (z0 : St) (Q : Int64 → St → Prop) (hP : P_M_goalNow z0 Q) : Ctl l y_M_goalNow cc_M_goalNow 1 (some .long) rm_M_goalNow G [.ref (ha G 31)] z0 Q := by
  refine Ctl.op (own := R_M) (by decide) rfl (Nat.le_of_ble_eq_true rfl) (fun p e s m args below meth c ls E hl hW => ?_)
  obtain ⟨hx, hb, hml, hown, hr, hlk, hex, hE⟩ := id E
  have hl : lv_has ls 1 [(0, .ref (ha G 31))] := hl
  refine lv_aload_n hx hb d_M_goalNow_0 rfl (lv_at hl 0 rfl) ?_
  refine ygf_31_19 hx hb hown hE hW (lk_M_100 hE) d_M_goalNow_1 ?_
  refine lv_if_eq (tgt := 15) hx hb d_M_goalNow_4 rfl (fun hc => ?_) (fun hc => ?_)
  · have hP := hP.1 hc
    refine lv_aload_n hx hb d_M_goalNow_15 rfl (lv_at hl 0 rfl) ?_
    refine ygf_31_16 hx hb hown hE hW (lk_M_43 hE) d_M_goalNow_16 ?_
    refine lv_iconst (v := 0) hx hb d_M_goalNow_19 (by decide) ?_
    refine ya_41 hx hb hE hW hP.1 d_M_goalNow_20 ?_
    have hP := hP.2
    exact yr_l hx hb hr hlk hW hP d_M_goalNow_21
  · have hP := hP.2 hc
    refine lv_aload_n hx hb d_M_goalNow_7 rfl (lv_at hl 0 rfl) ?_
    refine yc_i (yV (As := []) (rest := []) E (c_M_candidates _ _ hP) (cw_M_185 hE) (yrv_31 hE hW) (by decide) hW hl.1 rfl rfl rfl d_M_goalNow_8) hW (fun x2 z1 H locs hP hW => ?_)
    refine lv_i2l hx hb d_M_goalNow_11 rfl ?_
    refine lv_goto (tgt := 21) hx hb d_M_goalNow_12 rfl ?_
    exact yr_l hx hb hr hlk hW hP d_M_goalNow_21
theorem d_M_dice_0 : decode cc_M_dice 0 = .ok (.aload_n 0, 1) := by decide +kernel
theorem d_M_dice_1 : decode cc_M_dice 1 = .ok (.iload_n 1, 1) := by decide +kernel
theorem d_M_dice_2 : decode cc_M_dice 2 = .ok (.iconst 2, 1) := by decide +kernel
theorem d_M_dice_3 : decode cc_M_dice 3 = .ok (.if_icmp .lt 9, 3) := by decide +kernel
theorem d_M_dice_6 : decode cc_M_dice 6 = .ok (.iload_n 1, 1) := by decide +kernel
theorem d_M_dice_7 : decode cc_M_dice 7 = .ok (.bipush 20, 2) := by decide +kernel
theorem d_M_dice_9 : decode cc_M_dice 9 = .ok (.if_icmp .le 7, 3) := by decide +kernel
theorem d_M_dice_12 : decode cc_M_dice 12 = .ok (.iconst 1, 1) := by decide +kernel
theorem d_M_dice_13 : decode cc_M_dice 13 = .ok (.goto 50, 3) := by decide +kernel
theorem d_M_dice_16 : decode cc_M_dice 16 = .ok (.aload_n 0, 1) := by decide +kernel
theorem d_M_dice_17 : decode cc_M_dice 17 = .ok (.getfield 100, 3) := by decide +kernel
theorem d_M_dice_20 : decode cc_M_dice 20 = .ok (.ifCond .ne 14, 3) := by decide +kernel
theorem d_M_dice_23 : decode cc_M_dice 23 = .ok (.aload_n 0, 1) := by decide +kernel
theorem d_M_dice_24 : decode cc_M_dice 24 = .ok (.invokevirtual 155, 3) := by decide +kernel
theorem d_M_dice_27 : decode cc_M_dice 27 = .ok (.ifCond .ne 7, 3) := by decide +kernel
theorem d_M_dice_30 : decode cc_M_dice 30 = .ok (.iconst 2, 1) := by decide +kernel
theorem d_M_dice_31 : decode cc_M_dice 31 = .ok (.goto 32, 3) := by decide +kernel
theorem d_M_dice_34 : decode cc_M_dice 34 = .ok (.aload_n 0, 1) := by decide +kernel
theorem d_M_dice_35 : decode cc_M_dice 35 = .ok (.getfield 100, 3) := by decide +kernel
theorem d_M_dice_38 : decode cc_M_dice 38 = .ok (.ifCond .eq 11, 3) := by decide +kernel
theorem d_M_dice_41 : decode cc_M_dice 41 = .ok (.aload_n 0, 1) := by decide +kernel
theorem d_M_dice_42 : decode cc_M_dice 42 = .ok (.getfield 55, 3) := by decide +kernel
theorem d_M_dice_45 : decode cc_M_dice 45 = .ok (.iconst (-1), 1) := by decide +kernel
theorem d_M_dice_46 : decode cc_M_dice 46 = .ok (.if_icmp .eq 12, 3) := by decide +kernel
theorem d_M_dice_49 : decode cc_M_dice 49 = .ok (.aload_n 0, 1) := by decide +kernel
theorem d_M_dice_50 : decode cc_M_dice 50 = .ok (.invokevirtual 189, 3) := by decide +kernel
theorem d_M_dice_53 : decode cc_M_dice 53 = .ok (.lconst 0, 1) := by decide +kernel
theorem d_M_dice_54 : decode cc_M_dice 54 = .ok (.lcmp, 1) := by decide +kernel
theorem d_M_dice_55 : decode cc_M_dice 55 = .ok (.ifCond .ne 7, 3) := by decide +kernel
theorem d_M_dice_58 : decode cc_M_dice 58 = .ok (.iconst 3, 1) := by decide +kernel
theorem d_M_dice_59 : decode cc_M_dice 59 = .ok (.goto 4, 3) := by decide +kernel
theorem d_M_dice_62 : decode cc_M_dice 62 = .ok (.iconst 0, 1) := by decide +kernel
theorem d_M_dice_63 : decode cc_M_dice 63 = .ok (.putfield 70, 3) := by decide +kernel
theorem d_M_dice_66 : decode cc_M_dice 66 = .ok (.aload_n 0, 1) := by decide +kernel
theorem d_M_dice_67 : decode cc_M_dice 67 = .ok (.getfield 70, 3) := by decide +kernel
theorem d_M_dice_70 : decode cc_M_dice 70 = .ok (.ifCond .le 5, 3) := by decide +kernel
theorem d_M_dice_73 : decode cc_M_dice 73 = .ok (.iconst 0, 1) := by decide +kernel
theorem d_M_dice_74 : decode cc_M_dice 74 = .ok (.ireturn, 1) := by decide +kernel
theorem d_M_dice_75 : decode cc_M_dice 75 = .ok (.aload_n 0, 1) := by decide +kernel
theorem d_M_dice_76 : decode cc_M_dice 76 = .ok (.iload_n 1, 1) := by decide +kernel
theorem d_M_dice_77 : decode cc_M_dice 77 = .ok (.putfield 87, 3) := by decide +kernel
theorem d_M_dice_80 : decode cc_M_dice 80 = .ok (.aload_n 0, 1) := by decide +kernel
theorem d_M_dice_81 : decode cc_M_dice 81 = .ok (.aload_n 0, 1) := by decide +kernel
theorem d_M_dice_82 : decode cc_M_dice 82 = .ok (.invokevirtual 189, 3) := by decide +kernel
theorem d_M_dice_85 : decode cc_M_dice 85 = .ok (.putfield 193, 3) := by decide +kernel
theorem d_M_dice_88 : decode cc_M_dice 88 = .ok (.aload_n 0, 1) := by decide +kernel
theorem d_M_dice_89 : decode cc_M_dice 89 = .ok (.iconst 0, 1) := by decide +kernel
theorem d_M_dice_90 : decode cc_M_dice 90 = .ok (.putfield 197, 3) := by decide +kernel
theorem d_M_dice_93 : decode cc_M_dice 93 = .ok (.aload_n 0, 1) := by decide +kernel
theorem d_M_dice_94 : decode cc_M_dice 94 = .ok (.lconst 1, 1) := by decide +kernel
theorem d_M_dice_95 : decode cc_M_dice 95 = .ok (.putfield 200, 3) := by decide +kernel
theorem d_M_dice_98 : decode cc_M_dice 98 = .ok (.aload_n 0, 1) := by decide +kernel
theorem d_M_dice_99 : decode cc_M_dice 99 = .ok (.getfield 200, 3) := by decide +kernel
theorem d_M_dice_102 : decode cc_M_dice 102 = .ok (.aload_n 0, 1) := by decide +kernel
theorem d_M_dice_103 : decode cc_M_dice 103 = .ok (.getfield 193, 3) := by decide +kernel
theorem d_M_dice_106 : decode cc_M_dice 106 = .ok (.lcmp, 1) := by decide +kernel
theorem d_M_dice_107 : decode cc_M_dice 107 = .ok (.ifCond .ge 27, 3) := by decide +kernel
theorem d_M_dice_110 : decode cc_M_dice 110 = .ok (.aload_n 0, 1) := by decide +kernel
theorem d_M_dice_111 : decode cc_M_dice 111 = .ok (.dup, 1) := by decide +kernel
theorem d_M_dice_112 : decode cc_M_dice 112 = .ok (.getfield 200, 3) := by decide +kernel
theorem d_M_dice_115 : decode cc_M_dice 115 = .ok (.iload_n 1, 1) := by decide +kernel
theorem d_M_dice_116 : decode cc_M_dice 116 = .ok (.i2l, 1) := by decide +kernel
theorem d_M_dice_117 : decode cc_M_dice 117 = .ok (.lmul, 1) := by decide +kernel
theorem d_M_dice_118 : decode cc_M_dice 118 = .ok (.putfield 200, 3) := by decide +kernel
theorem d_M_dice_121 : decode cc_M_dice 121 = .ok (.aload_n 0, 1) := by decide +kernel
theorem d_M_dice_122 : decode cc_M_dice 122 = .ok (.dup, 1) := by decide +kernel
theorem d_M_dice_123 : decode cc_M_dice 123 = .ok (.getfield 197, 3) := by decide +kernel
theorem d_M_dice_126 : decode cc_M_dice 126 = .ok (.iconst 1, 1) := by decide +kernel
theorem d_M_dice_127 : decode cc_M_dice 127 = .ok (.iadd, 1) := by decide +kernel
theorem d_M_dice_128 : decode cc_M_dice 128 = .ok (.putfield 197, 3) := by decide +kernel
theorem d_M_dice_131 : decode cc_M_dice 131 = .ok (.goto (-33), 3) := by decide +kernel
theorem d_M_dice_134 : decode cc_M_dice 134 = .ok (.aload_n 0, 1) := by decide +kernel
theorem d_M_dice_135 : decode cc_M_dice 135 = .ok (.lconst 0, 1) := by decide +kernel
theorem d_M_dice_136 : decode cc_M_dice 136 = .ok (.putfield 203, 3) := by decide +kernel
theorem d_M_dice_139 : decode cc_M_dice 139 = .ok (.aload_n 0, 1) := by decide +kernel
theorem d_M_dice_140 : decode cc_M_dice 140 = .ok (.iconst 0, 1) := by decide +kernel
theorem d_M_dice_141 : decode cc_M_dice 141 = .ok (.putfield 206, 3) := by decide +kernel
theorem d_M_dice_144 : decode cc_M_dice 144 = .ok (.aload_n 0, 1) := by decide +kernel
theorem d_M_dice_145 : decode cc_M_dice 145 = .ok (.aload_n 0, 1) := by decide +kernel
theorem d_M_dice_146 : decode cc_M_dice 146 = .ok (.getfield 197, 3) := by decide +kernel
theorem d_M_dice_149 : decode cc_M_dice 149 = .ok (.ifCond .ne 7, 3) := by decide +kernel
theorem d_M_dice_152 : decode cc_M_dice 152 = .ok (.iconst 1, 1) := by decide +kernel
theorem d_M_dice_153 : decode cc_M_dice 153 = .ok (.goto 4, 3) := by decide +kernel
theorem d_M_dice_156 : decode cc_M_dice 156 = .ok (.iconst 0, 1) := by decide +kernel
theorem d_M_dice_157 : decode cc_M_dice 157 = .ok (.putfield 90, 3) := by decide +kernel
theorem d_M_dice_160 : decode cc_M_dice 160 = .ok (.aload_n 0, 1) := by decide +kernel
theorem d_M_dice_161 : decode cc_M_dice 161 = .ok (.lconst 0, 1) := by decide +kernel
theorem d_M_dice_162 : decode cc_M_dice 162 = .ok (.putfield 209, 3) := by decide +kernel
theorem d_M_dice_165 : decode cc_M_dice 165 = .ok (.aload_n 0, 1) := by decide +kernel
theorem d_M_dice_166 : decode cc_M_dice 166 = .ok (.getfield 197, 3) := by decide +kernel
theorem d_M_dice_169 : decode cc_M_dice 169 = .ok (.ireturn, 1) := by decide +kernel
def L_M_dice_98 (K134 : St → Prop) (Q : Int32 → St → Prop) : Nat → Int32 → St → Prop
  | 0, _, _ => False
  | n + 1, v1, z0 => (((z0.2 31 26) ≤ (z0.2 31 28)) → K134 z0) ∧ ((¬ (z0.2 31 26) ≤ (z0.2 31 28)) → ∀ z8 : St, z8 = wL z0 31 28 ((z0.2 31 28) * v1.toInt64) → ∀ z9 : St, z9 = wI z8 31 25 ((z8.1 31 25) + (1 : Int32)) → L_M_dice_98 K134 Q n v1 z9)
def J_M_dice_63 (Q : Int32 → St → Prop) (v1 : Int32) (t0 : Int32) (z0 : St) : Prop := ∀ z1 : St, z1 = wI z0 31 0 t0 → (((z1.1 31 0) ≤ 0) → ∀ z2 : St, z2 = wI z1 31 23 v1 → P_M_goalNow z2 (fun (x4 : Int64) (z3 : St) => ∀ z5 : St, z5 = wL z3 31 26 x4 → ∀ z6 : St, z6 = wI z5 31 25 (0 : Int32) → ∀ z7 : St, z7 = wL z6 31 28 (1 : Int64) → ∃ k98 : Nat, L_M_dice_98 (fun (z10 : St) => ∀ z11 : St, z11 = wL z10 31 27 (0 : Int64) → ∀ z12 : St, z12 = wI z11 31 24 (0 : Int32) → ((¬ (z12.1 31 25) = 0) → ∀ z13 : St, z13 = wI z12 31 29 (0 : Int32) → ∀ z14 : St, z14 = wL z13 31 30 (0 : Int64) → Q (z14.1 31 25) z14) ∧ (((z12.1 31 25) = 0) → ∀ z15 : St, z15 = wI z12 31 29 (1 : Int32) → ∀ z16 : St, z16 = wL z15 31 30 (0 : Int64) → Q (z16.1 31 25) z16)) Q k98 v1 z7)) ∧ ((¬ (z1.1 31 0) ≤ 0) → Q (0 : Int32) z1)
def J_M_dice_49 (Q : Int32 → St → Prop) (v1 : Int32) (z0 : St) : Prop := P_M_goalNow z0 (fun (x18 : Int64) (z17 : St) => ((¬ x18 = (0 : Int64)) → J_M_dice_63 Q v1 (0 : Int32) z17) ∧ ((x18 = (0 : Int64)) → J_M_dice_63 Q v1 (3 : Int32) z17))
def J_M_dice_34 (Q : Int32 → St → Prop) (v1 : Int32) (z0 : St) : Prop := (((z0.1 31 19) = 0) → J_M_dice_49 Q v1 z0) ∧ ((¬ (z0.1 31 19) = 0) → (((z0.1 31 21) = (-1 : Int32)) → J_M_dice_63 Q v1 (3 : Int32) z0) ∧ ((¬ (z0.1 31 21) = (-1 : Int32)) → J_M_dice_49 Q v1 z0))
def P_M_dice (a1 : Int32) (z0 : St) (Q : Int32 → St → Prop) : Prop := ((a1 < (2 : Int32)) → J_M_dice_63 Q a1 (1 : Int32) z0) ∧ ((¬ a1 < (2 : Int32)) → ((a1 ≤ (20 : Int32)) → ((¬ (z0.1 31 19) = 0) → J_M_dice_34 Q a1 z0) ∧ (((z0.1 31 19) = 0) → P_M_counts z0 (fun (x20 : Int32) (z19 : St) => ((¬ x20 = 0) → J_M_dice_34 Q a1 z19) ∧ ((x20 = 0) → J_M_dice_63 Q a1 (2 : Int32) z19)))) ∧ ((¬ a1 ≤ (20 : Int32)) → J_M_dice_63 Q a1 (1 : Int32) z0))
set_option maxHeartbeats 4000000 in
set_option maxRecDepth 100000 in
theorem wL_M_dice_98 {K134 : St → Prop} {Q : Int32 → St → Prop} (E : En p l s m meth c args cc_M_dice 2 R_M (some .int) G)
    (hK134 : ∀ (z0 : St) (ls : Array Slot) (H : Heap) (locs : List Loc), K134 z0 → lv_has ls 2 [(0, .ref (ha G 31))] → Wd G z0 s.heap H locs → W p l e rm_M_dice s m args below meth c H locs 0 0 (MQ below (QiR Q G) args s 0 0 (fr G)) (F0 m 134 ls [])) :
    ∀ (n : Nat) (v1 : Int32) (z0 : St) (ls : Array Slot) (H : Heap) (locs : List Loc), L_M_dice_98 K134 Q n v1 z0 → lv_has ls 2 [(0, .ref (ha G 31)), (1, .int v1)] → Wd G z0 s.heap H locs → W p l e rm_M_dice s m args below meth c H locs 0 0 (MQ below (QiR Q G) args s 0 0 (fr G)) (F0 m 98 ls []) := by
  obtain ⟨hx, hb, hml, hown, hr, hlk, hex, hE⟩ := id E
  intro n
  induction n with
  | zero => exact fun _ _ _ _ _ hP _ _ => hP.elim
  | succ n ih =>
    intro v1 z0 ls H locs hP hl hW
    refine lv_aload_n hx hb d_M_dice_98 rfl (lv_at hl 0 rfl) ?_
    refine ygf_31_28 hx hb hown hE hW (lk_M_200 hE) d_M_dice_99 ?_
    refine lv_aload_n hx hb d_M_dice_102 rfl (lv_at hl 0 rfl) ?_
    refine ygf_31_26 hx hb hown hE hW (lk_M_193 hE) d_M_dice_103 ?_
    refine W.lcmp hx hb d_M_dice_106 ?_
    refine lv_if_ge (tgt := 134) hx hb d_M_dice_107 rfl (fun hc => ?_) (fun hc => ?_)
    · have hP := hP.1 (lgc_get hc)
      exact hK134 _ _ _ _ hP (lv_sub hl [0] rfl) hW
    · have hP := hP.2 (lgc_gef hc)
      refine lv_aload_n hx hb d_M_dice_110 rfl (lv_at hl 0 rfl) ?_
      refine lv_dup hx hb d_M_dice_111 rfl ?_
      refine ygf_31_28 hx hb hown hE hW (lk_M_200 hE) d_M_dice_112 ?_
      refine lv_iload_n hx hb d_M_dice_115 rfl (lv_at hl 1 rfl) ?_
      refine lv_i2l hx hb d_M_dice_116 rfl ?_
      refine lv_lmul hx hb d_M_dice_117 ?_
      refine ypf_31_28 hx hb hown hE hW (lk_M_200 hE) d_M_dice_118 (fun z8 H locs e_z8 hW => ?_)
      have hP := hP z8 e_z8
      refine lv_aload_n hx hb d_M_dice_121 rfl (lv_at hl 0 rfl) ?_
      refine lv_dup hx hb d_M_dice_122 rfl ?_
      refine ygf_31_25 hx hb hown hE hW (lk_M_197 hE) d_M_dice_123 ?_
      refine lv_iconst (v := 1) hx hb d_M_dice_126 (by decide) ?_
      refine lv_iadd hx hb d_M_dice_127 ?_
      refine ypf_31_25 hx hb hown hE hW (lk_M_197 hE) d_M_dice_128 (fun z9 H locs e_z9 hW => ?_)
      have hP := hP z9 e_z9
      refine lv_goto (tgt := 98) hx hb d_M_dice_131 rfl ?_
      exact ih _ _ _ _ _ hP hl hW
set_option maxHeartbeats 4000000 in
set_option maxRecDepth 100000 in
theorem wJ_M_dice_63 {Q : Int32 → St → Prop} (E : En p l s m meth c args cc_M_dice 2 R_M (some .int) G)
    (v1 : Int32) (t0 : Int32) (z0 : St) (ls : Array Slot) (H : Heap) (locs : List Loc) (hP : J_M_dice_63 Q v1 t0 z0) (hl : lv_has ls 2 [(0, .ref (ha G 31)), (1, .int v1)]) (hW : Wd G z0 s.heap H locs) : W p l e rm_M_dice s m args below meth c H locs 0 0 (MQ below (QiR Q G) args s 0 0 (fr G)) (F0 m 63 ls [.int t0, .ref (ha G 31)]) := by
  obtain ⟨hx, hb, hml, hown, hr, hlk, hex, hE⟩ := id E
  refine ypf_31_0 hx hb hown hE hW (lk_M_70 hE) d_M_dice_63 (fun z1 H locs e_z1 hW => ?_)
  have hP := hP z1 e_z1
  refine lv_aload_n hx hb d_M_dice_66 rfl (lv_at hl 0 rfl) ?_
  refine ygf_31_0 hx hb hown hE hW (lk_M_70 hE) d_M_dice_67 ?_
  refine lv_if_le (tgt := 75) hx hb d_M_dice_70 rfl (fun hc => ?_) (fun hc => ?_)
  · have hP := hP.1 hc
    refine lv_aload_n hx hb d_M_dice_75 rfl (lv_at hl 0 rfl) ?_
    refine lv_iload_n hx hb d_M_dice_76 rfl (lv_at hl 1 rfl) ?_
    refine ypf_31_23 hx hb hown hE hW (lk_M_87 hE) d_M_dice_77 (fun z2 H locs e_z2 hW => ?_)
    have hP := hP z2 e_z2
    refine lv_aload_n hx hb d_M_dice_80 rfl (lv_at hl 0 rfl) ?_
    refine lv_aload_n hx hb d_M_dice_81 rfl (lv_at hl 0 rfl) ?_
    refine yc_l (yV (As := []) (rest := [.ref (ha G 31)]) E (c_M_goalNow _ _ hP) (cw_M_189 hE) (yrv_31 hE hW) (by decide) hW hl.1 rfl rfl rfl d_M_dice_82) hW (fun x4 z3 H locs hP hW => ?_)
    refine ypf_31_26 hx hb hown hE hW (lk_M_193 hE) d_M_dice_85 (fun z5 H locs e_z5 hW => ?_)
    have hP := hP z5 e_z5
    refine lv_aload_n hx hb d_M_dice_88 rfl (lv_at hl 0 rfl) ?_
    refine lv_iconst (v := 0) hx hb d_M_dice_89 (by decide) ?_
    refine ypf_31_25 hx hb hown hE hW (lk_M_197 hE) d_M_dice_90 (fun z6 H locs e_z6 hW => ?_)
    have hP := hP z6 e_z6
    refine lv_aload_n hx hb d_M_dice_93 rfl (lv_at hl 0 rfl) ?_
    refine lv_lconst (v := 1) hx hb d_M_dice_94 (by decide) ?_
    refine ypf_31_28 hx hb hown hE hW (lk_M_200 hE) d_M_dice_95 (fun z7 H locs e_z7 hW => ?_)
    have hP := hP z7 e_z7
    obtain ⟨n2, hP⟩ := hP
    refine wL_M_dice_98 E ?_ n2 _ _ _ _ _ hP hl hW
    · intro z10 ls H locs hP hl hW
      refine lv_aload_n hx hb d_M_dice_134 rfl (lv_at hl 0 rfl) ?_
      refine lv_lconst (v := 0) hx hb d_M_dice_135 (by decide) ?_
      refine ypf_31_27 hx hb hown hE hW (lk_M_203 hE) d_M_dice_136 (fun z11 H locs e_z11 hW => ?_)
      have hP := hP z11 e_z11
      refine lv_aload_n hx hb d_M_dice_139 rfl (lv_at hl 0 rfl) ?_
      refine lv_iconst (v := 0) hx hb d_M_dice_140 (by decide) ?_
      refine ypf_31_24 hx hb hown hE hW (lk_M_206 hE) d_M_dice_141 (fun z12 H locs e_z12 hW => ?_)
      have hP := hP z12 e_z12
      refine lv_aload_n hx hb d_M_dice_144 rfl (lv_at hl 0 rfl) ?_
      refine lv_aload_n hx hb d_M_dice_145 rfl (lv_at hl 0 rfl) ?_
      refine ygf_31_25 hx hb hown hE hW (lk_M_197 hE) d_M_dice_146 ?_
      refine lv_if_ne (tgt := 156) hx hb d_M_dice_149 rfl (fun hc => ?_) (fun hc => ?_)
      · have hP := hP.1 hc
        refine lv_iconst (v := 0) hx hb d_M_dice_156 (by decide) ?_
        refine ypf_31_29 hx hb hown hE hW zb_0 (lk_M_90 hE) d_M_dice_157 (fun z13 H locs e_z13 hW => ?_)
        have hP := hP z13 e_z13
        refine lv_aload_n hx hb d_M_dice_160 rfl (lv_at hl 0 rfl) ?_
        refine lv_lconst (v := 0) hx hb d_M_dice_161 (by decide) ?_
        refine ypf_31_30 hx hb hown hE hW (lk_M_209 hE) d_M_dice_162 (fun z14 H locs e_z14 hW => ?_)
        have hP := hP z14 e_z14
        refine lv_aload_n hx hb d_M_dice_165 rfl (lv_at hl 0 rfl) ?_
        refine ygf_31_25 hx hb hown hE hW (lk_M_197 hE) d_M_dice_166 ?_
        exact yr_i hx hb hr hlk hW hP d_M_dice_169
      · have hP := hP.2 hc
        refine lv_iconst (v := 1) hx hb d_M_dice_152 (by decide) ?_
        refine lv_goto (tgt := 157) hx hb d_M_dice_153 rfl ?_
        refine ypf_31_29 hx hb hown hE hW zb_1 (lk_M_90 hE) d_M_dice_157 (fun z15 H locs e_z15 hW => ?_)
        have hP := hP z15 e_z15
        refine lv_aload_n hx hb d_M_dice_160 rfl (lv_at hl 0 rfl) ?_
        refine lv_lconst (v := 0) hx hb d_M_dice_161 (by decide) ?_
        refine ypf_31_30 hx hb hown hE hW (lk_M_209 hE) d_M_dice_162 (fun z16 H locs e_z16 hW => ?_)
        have hP := hP z16 e_z16
        refine lv_aload_n hx hb d_M_dice_165 rfl (lv_at hl 0 rfl) ?_
        refine ygf_31_25 hx hb hown hE hW (lk_M_197 hE) d_M_dice_166 ?_
        exact yr_i hx hb hr hlk hW hP d_M_dice_169
  · have hP := hP.2 hc
    refine lv_iconst (v := 0) hx hb d_M_dice_73 (by decide) ?_
    exact yr_i hx hb hr hlk hW hP d_M_dice_74
set_option maxHeartbeats 4000000 in
set_option maxRecDepth 100000 in
theorem wJ_M_dice_49 {Q : Int32 → St → Prop} (E : En p l s m meth c args cc_M_dice 2 R_M (some .int) G)
    (v1 : Int32) (z0 : St) (ls : Array Slot) (H : Heap) (locs : List Loc) (hP : J_M_dice_49 Q v1 z0) (hl : lv_has ls 2 [(0, .ref (ha G 31)), (1, .int v1)]) (hW : Wd G z0 s.heap H locs) : W p l e rm_M_dice s m args below meth c H locs 0 0 (MQ below (QiR Q G) args s 0 0 (fr G)) (F0 m 49 ls [.ref (ha G 31)]) := by
  obtain ⟨hx, hb, hml, hown, hr, hlk, hex, hE⟩ := id E
  refine lv_aload_n hx hb d_M_dice_49 rfl (lv_at hl 0 rfl) ?_
  refine yc_l (yV (As := []) (rest := [.ref (ha G 31)]) E (c_M_goalNow _ _ hP) (cw_M_189 hE) (yrv_31 hE hW) (by decide) hW hl.1 rfl rfl rfl d_M_dice_50) hW (fun x18 z17 H locs hP hW => ?_)
  refine lv_lconst (v := 0) hx hb d_M_dice_53 (by decide) ?_
  refine W.lcmp hx hb d_M_dice_54 ?_
  refine lv_if_ne (tgt := 62) hx hb d_M_dice_55 rfl (fun hc => ?_) (fun hc => ?_)
  · have hP := hP.1 (lgc_net hc)
    refine lv_iconst (v := 0) hx hb d_M_dice_62 (by decide) ?_
    exact wJ_M_dice_63 E _ _ _ _ _ _ hP hl hW
  · have hP := hP.2 (lgc_nef hc)
    refine lv_iconst (v := 3) hx hb d_M_dice_58 (by decide) ?_
    refine lv_goto (tgt := 63) hx hb d_M_dice_59 rfl ?_
    exact wJ_M_dice_63 E _ _ _ _ _ _ hP hl hW
set_option maxHeartbeats 4000000 in
set_option maxRecDepth 100000 in
theorem wJ_M_dice_34 {Q : Int32 → St → Prop} (E : En p l s m meth c args cc_M_dice 2 R_M (some .int) G)
    (v1 : Int32) (z0 : St) (ls : Array Slot) (H : Heap) (locs : List Loc) (hP : J_M_dice_34 Q v1 z0) (hl : lv_has ls 2 [(0, .ref (ha G 31)), (1, .int v1)]) (hW : Wd G z0 s.heap H locs) : W p l e rm_M_dice s m args below meth c H locs 0 0 (MQ below (QiR Q G) args s 0 0 (fr G)) (F0 m 34 ls [.ref (ha G 31)]) := by
  obtain ⟨hx, hb, hml, hown, hr, hlk, hex, hE⟩ := id E
  refine lv_aload_n hx hb d_M_dice_34 rfl (lv_at hl 0 rfl) ?_
  refine ygf_31_19 hx hb hown hE hW (lk_M_100 hE) d_M_dice_35 ?_
  refine lv_if_eq (tgt := 49) hx hb d_M_dice_38 rfl (fun hc => ?_) (fun hc => ?_)
  · have hP := hP.1 hc
    exact wJ_M_dice_49 E _ _ _ _ _ hP hl hW
  · have hP := hP.2 hc
    refine lv_aload_n hx hb d_M_dice_41 rfl (lv_at hl 0 rfl) ?_
    refine ygf_31_21 hx hb hown hE hW (lk_M_55 hE) d_M_dice_42 ?_
    refine lv_iconst (v := -1) hx hb d_M_dice_45 (by decide) ?_
    refine lv_icmp_eq (tgt := 58) hx hb d_M_dice_46 rfl (fun hc => ?_) (fun hc => ?_)
    · have hP := hP.1 hc
      refine lv_iconst (v := 3) hx hb d_M_dice_58 (by decide) ?_
      refine lv_goto (tgt := 63) hx hb d_M_dice_59 rfl ?_
      exact wJ_M_dice_63 E _ _ _ _ _ _ hP hl hW
    · have hP := hP.2 hc
      exact wJ_M_dice_49 E _ _ _ _ _ hP hl hW
set_option maxHeartbeats 4000000 in
set_option maxRecDepth 100000 in
theorem c_M_dice {l : Launch} {G : GG} (a1 : Int32) (z0 : St) (Q : Int32 → St → Prop) (hP : P_M_dice a1 z0 Q) : Cti l y_M_dice cc_M_dice 2 (some .int) rm_M_dice G [.ref (ha G 31), .int a1] z0 Q := by
  refine Cti.op (own := R_M) (by decide) rfl (Nat.le_of_ble_eq_true rfl) (fun p e s m args below meth c ls E hl hW => ?_)
  obtain ⟨hx, hb, hml, hown, hr, hlk, hex, hE⟩ := id E
  have hl : lv_has ls 2 [(0, .ref (ha G 31)), (1, .int a1)] := hl
  refine lv_aload_n hx hb d_M_dice_0 rfl (lv_at hl 0 rfl) ?_
  refine lv_iload_n hx hb d_M_dice_1 rfl (lv_at hl 1 rfl) ?_
  refine lv_iconst (v := 2) hx hb d_M_dice_2 (by decide) ?_
  refine lv_icmp_lt (tgt := 12) hx hb d_M_dice_3 rfl (fun hc => ?_) (fun hc => ?_)
  · have hP := hP.1 hc
    refine lv_iconst (v := 1) hx hb d_M_dice_12 (by decide) ?_
    refine lv_goto (tgt := 63) hx hb d_M_dice_13 rfl ?_
    exact wJ_M_dice_63 E _ _ _ _ _ _ hP hl hW
  · have hP := hP.2 hc
    refine lv_iload_n hx hb d_M_dice_6 rfl (lv_at hl 1 rfl) ?_
    refine lv_bipush (v := 20) hx hb d_M_dice_7 (by decide) ?_
    refine lv_icmp_le (tgt := 16) hx hb d_M_dice_9 rfl (fun hc => ?_) (fun hc => ?_)
    · have hP := hP.1 hc
      refine lv_aload_n hx hb d_M_dice_16 rfl (lv_at hl 0 rfl) ?_
      refine ygf_31_19 hx hb hown hE hW (lk_M_100 hE) d_M_dice_17 ?_
      refine lv_if_ne (tgt := 34) hx hb d_M_dice_20 rfl (fun hc => ?_) (fun hc => ?_)
      · have hP := hP.1 hc
        exact wJ_M_dice_34 E _ _ _ _ _ hP hl hW
      · have hP := hP.2 hc
        refine lv_aload_n hx hb d_M_dice_23 rfl (lv_at hl 0 rfl) ?_
        refine yc_i (yV (As := []) (rest := [.ref (ha G 31)]) E (c_M_counts _ _ hP) (cw_M_155 hE) (yrv_31 hE hW) (by decide) hW hl.1 rfl rfl rfl d_M_dice_24) hW (fun x20 z19 H locs hP hW => ?_)
        refine lv_if_ne (tgt := 34) hx hb d_M_dice_27 rfl (fun hc => ?_) (fun hc => ?_)
        · have hP := hP.1 hc
          exact wJ_M_dice_34 E _ _ _ _ _ hP hl hW
        · have hP := hP.2 hc
          refine lv_iconst (v := 2) hx hb d_M_dice_30 (by decide) ?_
          refine lv_goto (tgt := 63) hx hb d_M_dice_31 rfl ?_
          exact wJ_M_dice_63 E _ _ _ _ _ _ hP hl hW
    · have hP := hP.2 hc
      refine lv_iconst (v := 1) hx hb d_M_dice_12 (by decide) ?_
      refine lv_goto (tgt := 63) hx hb d_M_dice_13 rfl ?_
      exact wJ_M_dice_63 E _ _ _ _ _ _ hP hl hW
theorem d_M_roll_0 : decode cc_M_roll 0 = .ok (.aload_n 0, 1) := by decide +kernel
theorem d_M_roll_1 : decode cc_M_roll 1 = .ok (.aload_n 0, 1) := by decide +kernel
theorem d_M_roll_2 : decode cc_M_roll 2 = .ok (.getfield 87, 3) := by decide +kernel
theorem d_M_roll_5 : decode cc_M_roll 5 = .ok (.ifCond .eq 10, 3) := by decide +kernel
theorem d_M_roll_8 : decode cc_M_roll 8 = .ok (.aload_n 0, 1) := by decide +kernel
theorem d_M_roll_9 : decode cc_M_roll 9 = .ok (.getfield 90, 3) := by decide +kernel
theorem d_M_roll_12 : decode cc_M_roll 12 = .ok (.ifCond .eq 7, 3) := by decide +kernel
theorem d_M_roll_15 : decode cc_M_roll 15 = .ok (.iconst 1, 1) := by decide +kernel
theorem d_M_roll_16 : decode cc_M_roll 16 = .ok (.goto 21, 3) := by decide +kernel
theorem d_M_roll_19 : decode cc_M_roll 19 = .ok (.iload_n 1, 1) := by decide +kernel
theorem d_M_roll_20 : decode cc_M_roll 20 = .ok (.iconst 1, 1) := by decide +kernel
theorem d_M_roll_21 : decode cc_M_roll 21 = .ok (.if_icmp .lt 11, 3) := by decide +kernel
theorem d_M_roll_24 : decode cc_M_roll 24 = .ok (.iload_n 1, 1) := by decide +kernel
theorem d_M_roll_25 : decode cc_M_roll 25 = .ok (.aload_n 0, 1) := by decide +kernel
theorem d_M_roll_26 : decode cc_M_roll 26 = .ok (.getfield 87, 3) := by decide +kernel
theorem d_M_roll_29 : decode cc_M_roll 29 = .ok (.if_icmp .le 7, 3) := by decide +kernel
theorem d_M_roll_32 : decode cc_M_roll 32 = .ok (.iconst 2, 1) := by decide +kernel
theorem d_M_roll_33 : decode cc_M_roll 33 = .ok (.goto 4, 3) := by decide +kernel
theorem d_M_roll_36 : decode cc_M_roll 36 = .ok (.iconst 0, 1) := by decide +kernel
theorem d_M_roll_37 : decode cc_M_roll 37 = .ok (.putfield 70, 3) := by decide +kernel
theorem d_M_roll_40 : decode cc_M_roll 40 = .ok (.aload_n 0, 1) := by decide +kernel
theorem d_M_roll_41 : decode cc_M_roll 41 = .ok (.getfield 70, 3) := by decide +kernel
theorem d_M_roll_44 : decode cc_M_roll 44 = .ok (.ifCond .le 5, 3) := by decide +kernel
theorem d_M_roll_47 : decode cc_M_roll 47 = .ok (.iconst 0, 1) := by decide +kernel
theorem d_M_roll_48 : decode cc_M_roll 48 = .ok (.ireturn, 1) := by decide +kernel
theorem d_M_roll_49 : decode cc_M_roll 49 = .ok (.aload_n 0, 1) := by decide +kernel
theorem d_M_roll_50 : decode cc_M_roll 50 = .ok (.aload_n 0, 1) := by decide +kernel
theorem d_M_roll_51 : decode cc_M_roll 51 = .ok (.getfield 203, 3) := by decide +kernel
theorem d_M_roll_54 : decode cc_M_roll 54 = .ok (.aload_n 0, 1) := by decide +kernel
theorem d_M_roll_55 : decode cc_M_roll 55 = .ok (.getfield 87, 3) := by decide +kernel
theorem d_M_roll_58 : decode cc_M_roll 58 = .ok (.i2l, 1) := by decide +kernel
theorem d_M_roll_59 : decode cc_M_roll 59 = .ok (.lmul, 1) := by decide +kernel
theorem d_M_roll_60 : decode cc_M_roll 60 = .ok (.iload_n 1, 1) := by decide +kernel
theorem d_M_roll_61 : decode cc_M_roll 61 = .ok (.i2l, 1) := by decide +kernel
theorem d_M_roll_62 : decode cc_M_roll 62 = .ok (.ladd, 1) := by decide +kernel
theorem d_M_roll_63 : decode cc_M_roll 63 = .ok (.lconst 1, 1) := by decide +kernel
theorem d_M_roll_64 : decode cc_M_roll 64 = .ok (.lsub, 1) := by decide +kernel
theorem d_M_roll_65 : decode cc_M_roll 65 = .ok (.putfield 203, 3) := by decide +kernel
theorem d_M_roll_68 : decode cc_M_roll 68 = .ok (.aload_n 0, 1) := by decide +kernel
theorem d_M_roll_69 : decode cc_M_roll 69 = .ok (.dup, 1) := by decide +kernel
theorem d_M_roll_70 : decode cc_M_roll 70 = .ok (.getfield 206, 3) := by decide +kernel
theorem d_M_roll_73 : decode cc_M_roll 73 = .ok (.iconst 1, 1) := by decide +kernel
theorem d_M_roll_74 : decode cc_M_roll 74 = .ok (.iadd, 1) := by decide +kernel
theorem d_M_roll_75 : decode cc_M_roll 75 = .ok (.putfield 206, 3) := by decide +kernel
theorem d_M_roll_78 : decode cc_M_roll 78 = .ok (.aload_n 0, 1) := by decide +kernel
theorem d_M_roll_79 : decode cc_M_roll 79 = .ok (.getfield 206, 3) := by decide +kernel
theorem d_M_roll_82 : decode cc_M_roll 82 = .ok (.aload_n 0, 1) := by decide +kernel
theorem d_M_roll_83 : decode cc_M_roll 83 = .ok (.getfield 197, 3) := by decide +kernel
theorem d_M_roll_86 : decode cc_M_roll 86 = .ok (.if_icmp .ge 5, 3) := by decide +kernel
theorem d_M_roll_89 : decode cc_M_roll 89 = .ok (.iconst 0, 1) := by decide +kernel
theorem d_M_roll_90 : decode cc_M_roll 90 = .ok (.ireturn, 1) := by decide +kernel
theorem d_M_roll_91 : decode cc_M_roll 91 = .ok (.aload_n 0, 1) := by decide +kernel
theorem d_M_roll_92 : decode cc_M_roll 92 = .ok (.aload_n 0, 1) := by decide +kernel
theorem d_M_roll_93 : decode cc_M_roll 93 = .ok (.getfield 203, 3) := by decide +kernel
theorem d_M_roll_96 : decode cc_M_roll 96 = .ok (.aload_n 0, 1) := by decide +kernel
theorem d_M_roll_97 : decode cc_M_roll 97 = .ok (.getfield 200, 3) := by decide +kernel
theorem d_M_roll_100 : decode cc_M_roll 100 = .ok (.aload_n 0, 1) := by decide +kernel
theorem d_M_roll_101 : decode cc_M_roll 101 = .ok (.getfield 193, 3) := by decide +kernel
theorem d_M_roll_104 : decode cc_M_roll 104 = .ok (.ldiv, 1) := by decide +kernel
theorem d_M_roll_105 : decode cc_M_roll 105 = .ok (.aload_n 0, 1) := by decide +kernel
theorem d_M_roll_106 : decode cc_M_roll 106 = .ok (.getfield 193, 3) := by decide +kernel
theorem d_M_roll_109 : decode cc_M_roll 109 = .ok (.lmul, 1) := by decide +kernel
theorem d_M_roll_110 : decode cc_M_roll 110 = .ok (.lcmp, 1) := by decide +kernel
theorem d_M_roll_111 : decode cc_M_roll 111 = .ok (.ifCond .ge 7, 3) := by decide +kernel
theorem d_M_roll_114 : decode cc_M_roll 114 = .ok (.iconst 1, 1) := by decide +kernel
theorem d_M_roll_115 : decode cc_M_roll 115 = .ok (.goto 4, 3) := by decide +kernel
theorem d_M_roll_118 : decode cc_M_roll 118 = .ok (.iconst 0, 1) := by decide +kernel
theorem d_M_roll_119 : decode cc_M_roll 119 = .ok (.putfield 90, 3) := by decide +kernel
theorem d_M_roll_122 : decode cc_M_roll 122 = .ok (.aload_n 0, 1) := by decide +kernel
theorem d_M_roll_123 : decode cc_M_roll 123 = .ok (.aload_n 0, 1) := by decide +kernel
theorem d_M_roll_124 : decode cc_M_roll 124 = .ok (.getfield 203, 3) := by decide +kernel
theorem d_M_roll_127 : decode cc_M_roll 127 = .ok (.aload_n 0, 1) := by decide +kernel
theorem d_M_roll_128 : decode cc_M_roll 128 = .ok (.getfield 193, 3) := by decide +kernel
theorem d_M_roll_131 : decode cc_M_roll 131 = .ok (.lrem, 1) := by decide +kernel
theorem d_M_roll_132 : decode cc_M_roll 132 = .ok (.putfield 209, 3) := by decide +kernel
theorem d_M_roll_135 : decode cc_M_roll 135 = .ok (.aload_n 0, 1) := by decide +kernel
theorem d_M_roll_136 : decode cc_M_roll 136 = .ok (.lconst 0, 1) := by decide +kernel
theorem d_M_roll_137 : decode cc_M_roll 137 = .ok (.putfield 203, 3) := by decide +kernel
theorem d_M_roll_140 : decode cc_M_roll 140 = .ok (.aload_n 0, 1) := by decide +kernel
theorem d_M_roll_141 : decode cc_M_roll 141 = .ok (.iconst 0, 1) := by decide +kernel
theorem d_M_roll_142 : decode cc_M_roll 142 = .ok (.putfield 206, 3) := by decide +kernel
theorem d_M_roll_145 : decode cc_M_roll 145 = .ok (.aload_n 0, 1) := by decide +kernel
theorem d_M_roll_146 : decode cc_M_roll 146 = .ok (.getfield 90, 3) := by decide +kernel
theorem d_M_roll_149 : decode cc_M_roll 149 = .ok (.ifCond .eq 7, 3) := by decide +kernel
theorem d_M_roll_152 : decode cc_M_roll 152 = .ok (.iconst 1, 1) := by decide +kernel
theorem d_M_roll_153 : decode cc_M_roll 153 = .ok (.goto 4, 3) := by decide +kernel
theorem d_M_roll_156 : decode cc_M_roll 156 = .ok (.iconst 2, 1) := by decide +kernel
theorem d_M_roll_157 : decode cc_M_roll 157 = .ok (.ireturn, 1) := by decide +kernel
def J_M_roll_119 (Q : Int32 → St → Prop) (t0 : Int32) (z0 : St) : Prop := zb t0 ∧ ∀ z4 : St, z4 = wI z0 31 29 t0 → ¬ (z4.2 31 26) = 0 ∧ ∀ z5 : St, z5 = wL z4 31 30 ((z4.2 31 27) - (z4.2 31 27) / (z4.2 31 26) * (z4.2 31 26)) → ∀ z6 : St, z6 = wL z5 31 27 (0 : Int64) → ∀ z7 : St, z7 = wI z6 31 24 (0 : Int32) → (((z7.1 31 29) = 0) → Q (2 : Int32) z7) ∧ ((¬ (z7.1 31 29) = 0) → Q (1 : Int32) z7)
def J_M_roll_37 (Q : Int32 → St → Prop) (v1 : Int32) (t0 : Int32) (z0 : St) : Prop := ∀ z1 : St, z1 = wI z0 31 0 t0 → (((z1.1 31 0) ≤ 0) → ∀ z2 : St, z2 = wL z1 31 27 ((((z1.2 31 27) * ((z1.1 31 23).toInt64)) + v1.toInt64) - (1 : Int64)) → ∀ z3 : St, z3 = wI z2 31 24 ((z2.1 31 24) + (1 : Int32)) → (((z3.1 31 25) ≤ (z3.1 31 24)) → ¬ (z3.2 31 26) = 0 ∧ (((((z3.2 31 28) / (z3.2 31 26)) * (z3.2 31 26)) ≤ (z3.2 31 27)) → J_M_roll_119 Q (0 : Int32) z3) ∧ ((¬ (((z3.2 31 28) / (z3.2 31 26)) * (z3.2 31 26)) ≤ (z3.2 31 27)) → J_M_roll_119 Q (1 : Int32) z3)) ∧ ((¬ (z3.1 31 25) ≤ (z3.1 31 24)) → Q (0 : Int32) z3)) ∧ ((¬ (z1.1 31 0) ≤ 0) → Q (0 : Int32) z1)
def P_M_roll (a1 : Int32) (z0 : St) (Q : Int32 → St → Prop) : Prop := (((z0.1 31 23) = 0) → J_M_roll_37 Q a1 (1 : Int32) z0) ∧ ((¬ (z0.1 31 23) = 0) → (((z0.1 31 29) = 0) → ((a1 < (1 : Int32)) → J_M_roll_37 Q a1 (2 : Int32) z0) ∧ ((¬ a1 < (1 : Int32)) → ((a1 ≤ (z0.1 31 23)) → J_M_roll_37 Q a1 (0 : Int32) z0) ∧ ((¬ a1 ≤ (z0.1 31 23)) → J_M_roll_37 Q a1 (2 : Int32) z0))) ∧ ((¬ (z0.1 31 29) = 0) → J_M_roll_37 Q a1 (1 : Int32) z0))
set_option maxHeartbeats 4000000 in
set_option maxRecDepth 100000 in
theorem wJ_M_roll_119 {Q : Int32 → St → Prop} (E : En p l s m meth c args cc_M_roll 2 R_M (some .int) G)
    (t0 : Int32) (z0 : St) (ls : Array Slot) (H : Heap) (locs : List Loc) (hP : J_M_roll_119 Q t0 z0) (hl : lv_has ls 2 [(0, .ref (ha G 31))]) (hW : Wd G z0 s.heap H locs) : W p l e rm_M_roll s m args below meth c H locs 0 0 (MQ below (QiR Q G) args s 0 0 (fr G)) (F0 m 119 ls [.int t0, .ref (ha G 31)]) := by
  obtain ⟨hx, hb, hml, hown, hr, hlk, hex, hE⟩ := id E
  refine ypf_31_29 hx hb hown hE hW hP.1 (lk_M_90 hE) d_M_roll_119 (fun z4 H locs e_z4 hW => ?_)
  have hP := hP.2
  have hP := hP z4 e_z4
  refine lv_aload_n hx hb d_M_roll_122 rfl (lv_at hl 0 rfl) ?_
  refine lv_aload_n hx hb d_M_roll_123 rfl (lv_at hl 0 rfl) ?_
  refine ygf_31_27 hx hb hown hE hW (lk_M_203 hE) d_M_roll_124 ?_
  refine lv_aload_n hx hb d_M_roll_127 rfl (lv_at hl 0 rfl) ?_
  refine ygf_31_26 hx hb hown hE hW (lk_M_193 hE) d_M_roll_128 ?_
  refine lv_lrem hx hb d_M_roll_131 hP.1 ?_
  have hP := hP.2
  refine ypf_31_30 hx hb hown hE hW (lk_M_209 hE) d_M_roll_132 (fun z5 H locs e_z5 hW => ?_)
  have hP := hP z5 e_z5
  refine lv_aload_n hx hb d_M_roll_135 rfl (lv_at hl 0 rfl) ?_
  refine lv_lconst (v := 0) hx hb d_M_roll_136 (by decide) ?_
  refine ypf_31_27 hx hb hown hE hW (lk_M_203 hE) d_M_roll_137 (fun z6 H locs e_z6 hW => ?_)
  have hP := hP z6 e_z6
  refine lv_aload_n hx hb d_M_roll_140 rfl (lv_at hl 0 rfl) ?_
  refine lv_iconst (v := 0) hx hb d_M_roll_141 (by decide) ?_
  refine ypf_31_24 hx hb hown hE hW (lk_M_206 hE) d_M_roll_142 (fun z7 H locs e_z7 hW => ?_)
  have hP := hP z7 e_z7
  refine lv_aload_n hx hb d_M_roll_145 rfl (lv_at hl 0 rfl) ?_
  refine ygf_31_29 hx hb hown hE hW (lk_M_90 hE) d_M_roll_146 ?_
  refine lv_if_eq (tgt := 156) hx hb d_M_roll_149 rfl (fun hc => ?_) (fun hc => ?_)
  · have hP := hP.1 hc
    refine lv_iconst (v := 2) hx hb d_M_roll_156 (by decide) ?_
    exact yr_i hx hb hr hlk hW hP d_M_roll_157
  · have hP := hP.2 hc
    refine lv_iconst (v := 1) hx hb d_M_roll_152 (by decide) ?_
    refine lv_goto (tgt := 157) hx hb d_M_roll_153 rfl ?_
    exact yr_i hx hb hr hlk hW hP d_M_roll_157
set_option maxHeartbeats 4000000 in
set_option maxRecDepth 100000 in
theorem wJ_M_roll_37 {Q : Int32 → St → Prop} (E : En p l s m meth c args cc_M_roll 2 R_M (some .int) G)
    (v1 : Int32) (t0 : Int32) (z0 : St) (ls : Array Slot) (H : Heap) (locs : List Loc) (hP : J_M_roll_37 Q v1 t0 z0) (hl : lv_has ls 2 [(0, .ref (ha G 31)), (1, .int v1)]) (hW : Wd G z0 s.heap H locs) : W p l e rm_M_roll s m args below meth c H locs 0 0 (MQ below (QiR Q G) args s 0 0 (fr G)) (F0 m 37 ls [.int t0, .ref (ha G 31)]) := by
  obtain ⟨hx, hb, hml, hown, hr, hlk, hex, hE⟩ := id E
  refine ypf_31_0 hx hb hown hE hW (lk_M_70 hE) d_M_roll_37 (fun z1 H locs e_z1 hW => ?_)
  have hP := hP z1 e_z1
  refine lv_aload_n hx hb d_M_roll_40 rfl (lv_at hl 0 rfl) ?_
  refine ygf_31_0 hx hb hown hE hW (lk_M_70 hE) d_M_roll_41 ?_
  refine lv_if_le (tgt := 49) hx hb d_M_roll_44 rfl (fun hc => ?_) (fun hc => ?_)
  · have hP := hP.1 hc
    refine lv_aload_n hx hb d_M_roll_49 rfl (lv_at hl 0 rfl) ?_
    refine lv_aload_n hx hb d_M_roll_50 rfl (lv_at hl 0 rfl) ?_
    refine ygf_31_27 hx hb hown hE hW (lk_M_203 hE) d_M_roll_51 ?_
    refine lv_aload_n hx hb d_M_roll_54 rfl (lv_at hl 0 rfl) ?_
    refine ygf_31_23 hx hb hown hE hW (lk_M_87 hE) d_M_roll_55 ?_
    refine lv_i2l hx hb d_M_roll_58 rfl ?_
    refine lv_lmul hx hb d_M_roll_59 ?_
    refine lv_iload_n hx hb d_M_roll_60 rfl (lv_at hl 1 rfl) ?_
    refine lv_i2l hx hb d_M_roll_61 rfl ?_
    refine lv_ladd hx hb d_M_roll_62 ?_
    refine lv_lconst (v := 1) hx hb d_M_roll_63 (by decide) ?_
    refine lv_lsub hx hb d_M_roll_64 ?_
    refine ypf_31_27 hx hb hown hE hW (lk_M_203 hE) d_M_roll_65 (fun z2 H locs e_z2 hW => ?_)
    have hP := hP z2 e_z2
    refine lv_aload_n hx hb d_M_roll_68 rfl (lv_at hl 0 rfl) ?_
    refine lv_dup hx hb d_M_roll_69 rfl ?_
    refine ygf_31_24 hx hb hown hE hW (lk_M_206 hE) d_M_roll_70 ?_
    refine lv_iconst (v := 1) hx hb d_M_roll_73 (by decide) ?_
    refine lv_iadd hx hb d_M_roll_74 ?_
    refine ypf_31_24 hx hb hown hE hW (lk_M_206 hE) d_M_roll_75 (fun z3 H locs e_z3 hW => ?_)
    have hP := hP z3 e_z3
    refine lv_aload_n hx hb d_M_roll_78 rfl (lv_at hl 0 rfl) ?_
    refine ygf_31_24 hx hb hown hE hW (lk_M_206 hE) d_M_roll_79 ?_
    refine lv_aload_n hx hb d_M_roll_82 rfl (lv_at hl 0 rfl) ?_
    refine ygf_31_25 hx hb hown hE hW (lk_M_197 hE) d_M_roll_83 ?_
    refine lv_icmp_ge (tgt := 91) hx hb d_M_roll_86 rfl (fun hc => ?_) (fun hc => ?_)
    · have hP := hP.1 hc
      refine lv_aload_n hx hb d_M_roll_91 rfl (lv_at hl 0 rfl) ?_
      refine lv_aload_n hx hb d_M_roll_92 rfl (lv_at hl 0 rfl) ?_
      refine ygf_31_27 hx hb hown hE hW (lk_M_203 hE) d_M_roll_93 ?_
      refine lv_aload_n hx hb d_M_roll_96 rfl (lv_at hl 0 rfl) ?_
      refine ygf_31_28 hx hb hown hE hW (lk_M_200 hE) d_M_roll_97 ?_
      refine lv_aload_n hx hb d_M_roll_100 rfl (lv_at hl 0 rfl) ?_
      refine ygf_31_26 hx hb hown hE hW (lk_M_193 hE) d_M_roll_101 ?_
      refine lv_ldiv hx hb d_M_roll_104 hP.1 ?_
      have hP := hP.2
      refine lv_aload_n hx hb d_M_roll_105 rfl (lv_at hl 0 rfl) ?_
      refine ygf_31_26 hx hb hown hE hW (lk_M_193 hE) d_M_roll_106 ?_
      refine lv_lmul hx hb d_M_roll_109 ?_
      refine W.lcmp hx hb d_M_roll_110 ?_
      refine lv_if_ge (tgt := 118) hx hb d_M_roll_111 rfl (fun hc => ?_) (fun hc => ?_)
      · have hP := hP.1 (lgc_get hc)
        refine lv_iconst (v := 0) hx hb d_M_roll_118 (by decide) ?_
        exact wJ_M_roll_119 E _ _ _ _ _ hP (lv_sub hl [0] rfl) hW
      · have hP := hP.2 (lgc_gef hc)
        refine lv_iconst (v := 1) hx hb d_M_roll_114 (by decide) ?_
        refine lv_goto (tgt := 119) hx hb d_M_roll_115 rfl ?_
        exact wJ_M_roll_119 E _ _ _ _ _ hP (lv_sub hl [0] rfl) hW
    · have hP := hP.2 hc
      refine lv_iconst (v := 0) hx hb d_M_roll_89 (by decide) ?_
      exact yr_i hx hb hr hlk hW hP d_M_roll_90
  · have hP := hP.2 hc
    refine lv_iconst (v := 0) hx hb d_M_roll_47 (by decide) ?_
    exact yr_i hx hb hr hlk hW hP d_M_roll_48
set_option maxHeartbeats 4000000 in
set_option maxRecDepth 100000 in
theorem c_M_roll {l : Launch} {G : GG} (a1 : Int32) (z0 : St) (Q : Int32 → St → Prop) (hP : P_M_roll a1 z0 Q) : Cti l y_M_roll cc_M_roll 2 (some .int) rm_M_roll G [.ref (ha G 31), .int a1] z0 Q := by
  refine Cti.op (own := R_M) (by decide) rfl (Nat.le_of_ble_eq_true rfl) (fun p e s m args below meth c ls E hl hW => ?_)
  obtain ⟨hx, hb, hml, hown, hr, hlk, hex, hE⟩ := id E
  have hl : lv_has ls 2 [(0, .ref (ha G 31)), (1, .int a1)] := hl
  refine lv_aload_n hx hb d_M_roll_0 rfl (lv_at hl 0 rfl) ?_
  refine lv_aload_n hx hb d_M_roll_1 rfl (lv_at hl 0 rfl) ?_
  refine ygf_31_23 hx hb hown hE hW (lk_M_87 hE) d_M_roll_2 ?_
  refine lv_if_eq (tgt := 15) hx hb d_M_roll_5 rfl (fun hc => ?_) (fun hc => ?_)
  · have hP := hP.1 hc
    refine lv_iconst (v := 1) hx hb d_M_roll_15 (by decide) ?_
    refine lv_goto (tgt := 37) hx hb d_M_roll_16 rfl ?_
    exact wJ_M_roll_37 E _ _ _ _ _ _ hP hl hW
  · have hP := hP.2 hc
    refine lv_aload_n hx hb d_M_roll_8 rfl (lv_at hl 0 rfl) ?_
    refine ygf_31_29 hx hb hown hE hW (lk_M_90 hE) d_M_roll_9 ?_
    refine lv_if_eq (tgt := 19) hx hb d_M_roll_12 rfl (fun hc => ?_) (fun hc => ?_)
    · have hP := hP.1 hc
      refine lv_iload_n hx hb d_M_roll_19 rfl (lv_at hl 1 rfl) ?_
      refine lv_iconst (v := 1) hx hb d_M_roll_20 (by decide) ?_
      refine lv_icmp_lt (tgt := 32) hx hb d_M_roll_21 rfl (fun hc => ?_) (fun hc => ?_)
      · have hP := hP.1 hc
        refine lv_iconst (v := 2) hx hb d_M_roll_32 (by decide) ?_
        refine lv_goto (tgt := 37) hx hb d_M_roll_33 rfl ?_
        exact wJ_M_roll_37 E _ _ _ _ _ _ hP hl hW
      · have hP := hP.2 hc
        refine lv_iload_n hx hb d_M_roll_24 rfl (lv_at hl 1 rfl) ?_
        refine lv_aload_n hx hb d_M_roll_25 rfl (lv_at hl 0 rfl) ?_
        refine ygf_31_23 hx hb hown hE hW (lk_M_87 hE) d_M_roll_26 ?_
        refine lv_icmp_le (tgt := 36) hx hb d_M_roll_29 rfl (fun hc => ?_) (fun hc => ?_)
        · have hP := hP.1 hc
          refine lv_iconst (v := 0) hx hb d_M_roll_36 (by decide) ?_
          exact wJ_M_roll_37 E _ _ _ _ _ _ hP hl hW
        · have hP := hP.2 hc
          refine lv_iconst (v := 2) hx hb d_M_roll_32 (by decide) ?_
          refine lv_goto (tgt := 37) hx hb d_M_roll_33 rfl ?_
          exact wJ_M_roll_37 E _ _ _ _ _ _ hP hl hW
    · have hP := hP.2 hc
      refine lv_iconst (v := 1) hx hb d_M_roll_15 (by decide) ?_
      refine lv_goto (tgt := 37) hx hb d_M_roll_16 rfl ?_
      exact wJ_M_roll_37 E _ _ _ _ _ _ hP hl hW
theorem d_M_number_0 : decode cc_M_number 0 = .ok (.aload_n 0, 1) := by decide +kernel
theorem d_M_number_1 : decode cc_M_number 1 = .ok (.aload_n 0, 1) := by decide +kernel
theorem d_M_number_2 : decode cc_M_number 2 = .ok (.getfield 90, 3) := by decide +kernel
theorem d_M_number_5 : decode cc_M_number 5 = .ok (.ifCond .eq 7, 3) := by decide +kernel
theorem d_M_number_8 : decode cc_M_number 8 = .ok (.iconst 0, 1) := by decide +kernel
theorem d_M_number_9 : decode cc_M_number 9 = .ok (.goto 4, 3) := by decide +kernel
theorem d_M_number_12 : decode cc_M_number 12 = .ok (.iconst 1, 1) := by decide +kernel
theorem d_M_number_13 : decode cc_M_number 13 = .ok (.putfield 70, 3) := by decide +kernel
theorem d_M_number_16 : decode cc_M_number 16 = .ok (.aload_n 0, 1) := by decide +kernel
theorem d_M_number_17 : decode cc_M_number 17 = .ok (.getfield 90, 3) := by decide +kernel
theorem d_M_number_20 : decode cc_M_number 20 = .ok (.ifCond .eq 10, 3) := by decide +kernel
theorem d_M_number_23 : decode cc_M_number 23 = .ok (.aload_n 0, 1) := by decide +kernel
theorem d_M_number_24 : decode cc_M_number 24 = .ok (.getfield 209, 3) := by decide +kernel
theorem d_M_number_27 : decode cc_M_number 27 = .ok (.goto 4, 3) := by decide +kernel
theorem d_M_number_30 : decode cc_M_number 30 = .ok (.lconst 0, 1) := by decide +kernel
theorem d_M_number_31 : decode cc_M_number 31 = .ok (.lreturn, 1) := by decide +kernel
def J_M_number_13 (Q : Int64 → St → Prop) (t0 : Int32) (z0 : St) : Prop := ∀ z1 : St, z1 = wI z0 31 0 t0 → (((z1.1 31 29) = 0) → Q (0 : Int64) z1) ∧ ((¬ (z1.1 31 29) = 0) → Q (z1.2 31 30) z1)
def P_M_number (z0 : St) (Q : Int64 → St → Prop) : Prop := (((z0.1 31 29) = 0) → J_M_number_13 Q (1 : Int32) z0) ∧ ((¬ (z0.1 31 29) = 0) → J_M_number_13 Q (0 : Int32) z0)
set_option maxHeartbeats 4000000 in
set_option maxRecDepth 100000 in
theorem wJ_M_number_13 {Q : Int64 → St → Prop} (E : En p l s m meth c args cc_M_number 1 R_M (some .long) G)
    (t0 : Int32) (z0 : St) (ls : Array Slot) (H : Heap) (locs : List Loc) (hP : J_M_number_13 Q t0 z0) (hl : lv_has ls 1 [(0, .ref (ha G 31))]) (hW : Wd G z0 s.heap H locs) : W p l e rm_M_number s m args below meth c H locs 0 0 (MQ below (QlR Q G) args s 0 0 (fr G)) (F0 m 13 ls [.int t0, .ref (ha G 31)]) := by
  obtain ⟨hx, hb, hml, hown, hr, hlk, hex, hE⟩ := id E
  refine ypf_31_0 hx hb hown hE hW (lk_M_70 hE) d_M_number_13 (fun z1 H locs e_z1 hW => ?_)
  have hP := hP z1 e_z1
  refine lv_aload_n hx hb d_M_number_16 rfl (lv_at hl 0 rfl) ?_
  refine ygf_31_29 hx hb hown hE hW (lk_M_90 hE) d_M_number_17 ?_
  refine lv_if_eq (tgt := 30) hx hb d_M_number_20 rfl (fun hc => ?_) (fun hc => ?_)
  · have hP := hP.1 hc
    refine lv_lconst (v := 0) hx hb d_M_number_30 (by decide) ?_
    exact yr_l hx hb hr hlk hW hP d_M_number_31
  · have hP := hP.2 hc
    refine lv_aload_n hx hb d_M_number_23 rfl (lv_at hl 0 rfl) ?_
    refine ygf_31_30 hx hb hown hE hW (lk_M_209 hE) d_M_number_24 ?_
    refine lv_goto (tgt := 31) hx hb d_M_number_27 rfl ?_
    exact yr_l hx hb hr hlk hW hP d_M_number_31
set_option maxHeartbeats 4000000 in
set_option maxRecDepth 100000 in
theorem c_M_number {l : Launch} {G : GG} (z0 : St) (Q : Int64 → St → Prop) (hP : P_M_number z0 Q) : Ctl l y_M_number cc_M_number 1 (some .long) rm_M_number G [.ref (ha G 31)] z0 Q := by
  refine Ctl.op (own := R_M) (by decide) rfl (Nat.le_of_ble_eq_true rfl) (fun p e s m args below meth c ls E hl hW => ?_)
  obtain ⟨hx, hb, hml, hown, hr, hlk, hex, hE⟩ := id E
  have hl : lv_has ls 1 [(0, .ref (ha G 31))] := hl
  refine lv_aload_n hx hb d_M_number_0 rfl (lv_at hl 0 rfl) ?_
  refine lv_aload_n hx hb d_M_number_1 rfl (lv_at hl 0 rfl) ?_
  refine ygf_31_29 hx hb hown hE hW (lk_M_90 hE) d_M_number_2 ?_
  refine lv_if_eq (tgt := 12) hx hb d_M_number_5 rfl (fun hc => ?_) (fun hc => ?_)
  · have hP := hP.1 hc
    refine lv_iconst (v := 1) hx hb d_M_number_12 (by decide) ?_
    exact wJ_M_number_13 E _ _ _ _ _ hP hl hW
  · have hP := hP.2 hc
    refine lv_iconst (v := 0) hx hb d_M_number_8 (by decide) ?_
    refine lv_goto (tgt := 13) hx hb d_M_number_9 rfl ?_
    exact wJ_M_number_13 E _ _ _ _ _ hP hl hW
theorem d_M_used_0 : decode cc_M_used 0 = .ok (.aload_n 0, 1) := by decide +kernel
theorem d_M_used_1 : decode cc_M_used 1 = .ok (.iconst 0, 1) := by decide +kernel
theorem d_M_used_2 : decode cc_M_used 2 = .ok (.putfield 87, 3) := by decide +kernel
theorem d_M_used_5 : decode cc_M_used 5 = .ok (.aload_n 0, 1) := by decide +kernel
theorem d_M_used_6 : decode cc_M_used 6 = .ok (.iconst 0, 1) := by decide +kernel
theorem d_M_used_7 : decode cc_M_used 7 = .ok (.putfield 90, 3) := by decide +kernel
theorem d_M_used_10 : decode cc_M_used 10 = .ok (.return_, 1) := by decide +kernel
def P_M_used (z0 : St) (Q : St → Prop) : Prop := ∀ z1 : St, z1 = wI z0 31 23 (0 : Int32) → ∀ z2 : St, z2 = wI z1 31 29 (0 : Int32) → Q z2
set_option maxHeartbeats 4000000 in
set_option maxRecDepth 100000 in
theorem c_M_used {l : Launch} {G : GG} (z0 : St) (Q : St → Prop) (hP : P_M_used z0 Q) : Ctv l y_M_used cc_M_used 1 none rm_M_used G [.ref (ha G 31)] z0 Q := by
  refine Ctv.op (own := R_M) (by decide) rfl (Nat.le_of_ble_eq_true rfl) (fun p e s m args below meth c ls E hl hW => ?_)
  obtain ⟨hx, hb, hml, hown, hr, hlk, hex, hE⟩ := id E
  have hl : lv_has ls 1 [(0, .ref (ha G 31))] := hl
  refine lv_aload_n hx hb d_M_used_0 rfl (lv_at hl 0 rfl) ?_
  refine lv_iconst (v := 0) hx hb d_M_used_1 (by decide) ?_
  refine ypf_31_23 hx hb hown hE hW (lk_M_87 hE) d_M_used_2 (fun z1 H locs e_z1 hW => ?_)
  have hP := hP z1 e_z1
  refine lv_aload_n hx hb d_M_used_5 rfl (lv_at hl 0 rfl) ?_
  refine lv_iconst (v := 0) hx hb d_M_used_6 (by decide) ?_
  refine ypf_31_29 hx hb hown hE hW zb_0 (lk_M_90 hE) d_M_used_7 (fun z2 H locs e_z2 hW => ?_)
  have hP := hP z2 e_z2
  exact yr_v hx hb hr hlk hW hP d_M_used_10
theorem d_M_draw_0 : decode cc_M_draw 0 = .ok (.aload_n 0, 1) := by decide +kernel
theorem d_M_draw_1 : decode cc_M_draw 1 = .ok (.aload_n 0, 1) := by decide +kernel
theorem d_M_draw_2 : decode cc_M_draw 2 = .ok (.getfield 100, 3) := by decide +kernel
theorem d_M_draw_5 : decode cc_M_draw 5 = .ok (.ifCond .ne 10, 3) := by decide +kernel
theorem d_M_draw_8 : decode cc_M_draw 8 = .ok (.aload_n 0, 1) := by decide +kernel
theorem d_M_draw_9 : decode cc_M_draw 9 = .ok (.getfield 90, 3) := by decide +kernel
theorem d_M_draw_12 : decode cc_M_draw 12 = .ok (.ifCond .ne 7, 3) := by decide +kernel
theorem d_M_draw_15 : decode cc_M_draw 15 = .ok (.iconst 1, 1) := by decide +kernel
theorem d_M_draw_16 : decode cc_M_draw 16 = .ok (.goto 4, 3) := by decide +kernel
theorem d_M_draw_19 : decode cc_M_draw 19 = .ok (.iconst 0, 1) := by decide +kernel
theorem d_M_draw_20 : decode cc_M_draw 20 = .ok (.putfield 70, 3) := by decide +kernel
theorem d_M_draw_23 : decode cc_M_draw 23 = .ok (.aload_n 0, 1) := by decide +kernel
theorem d_M_draw_24 : decode cc_M_draw 24 = .ok (.getfield 70, 3) := by decide +kernel
theorem d_M_draw_27 : decode cc_M_draw 27 = .ok (.ifCond .le 4, 3) := by decide +kernel
theorem d_M_draw_30 : decode cc_M_draw 30 = .ok (.return_, 1) := by decide +kernel
theorem d_M_draw_31 : decode cc_M_draw 31 = .ok (.aload_n 0, 1) := by decide +kernel
theorem d_M_draw_32 : decode cc_M_draw 32 = .ok (.invokevirtual 155, 3) := by decide +kernel
theorem d_M_draw_35 : decode cc_M_draw 35 = .ok (.pop, 1) := by decide +kernel
theorem d_M_draw_36 : decode cc_M_draw 36 = .ok (.aload_n 0, 1) := by decide +kernel
theorem d_M_draw_37 : decode cc_M_draw 37 = .ok (.aload_n 0, 1) := by decide +kernel
theorem d_M_draw_38 : decode cc_M_draw 38 = .ok (.getfield 209, 3) := by decide +kernel
theorem d_M_draw_41 : decode cc_M_draw 41 = .ok (.invokevirtual 178, 3) := by decide +kernel
theorem d_M_draw_44 : decode cc_M_draw 44 = .ok (.iconst 0, 1) := by decide +kernel
theorem d_M_draw_45 : decode cc_M_draw 45 = .ok (.istore_n 1, 1) := by decide +kernel
theorem d_M_draw_46 : decode cc_M_draw 46 = .ok (.iload_n 1, 1) := by decide +kernel
theorem d_M_draw_47 : decode cc_M_draw 47 = .ok (.aload_n 0, 1) := by decide +kernel
theorem d_M_draw_48 : decode cc_M_draw 48 = .ok (.getfield 26, 3) := by decide +kernel
theorem d_M_draw_51 : decode cc_M_draw 51 = .ok (.if_icmp .ge 21, 3) := by decide +kernel
theorem d_M_draw_54 : decode cc_M_draw 54 = .ok (.aload_n 0, 1) := by decide +kernel
theorem d_M_draw_55 : decode cc_M_draw 55 = .ok (.getfield 52, 3) := by decide +kernel
theorem d_M_draw_58 : decode cc_M_draw 58 = .ok (.iload_n 1, 1) := by decide +kernel
theorem d_M_draw_59 : decode cc_M_draw 59 = .ok (.aload_n 0, 1) := by decide +kernel
theorem d_M_draw_60 : decode cc_M_draw 60 = .ok (.getfield 67, 3) := by decide +kernel
theorem d_M_draw_63 : decode cc_M_draw 63 = .ok (.iload_n 1, 1) := by decide +kernel
theorem d_M_draw_64 : decode cc_M_draw 64 = .ok (.iaload, 1) := by decide +kernel
theorem d_M_draw_65 : decode cc_M_draw 65 = .ok (.iastore, 1) := by decide +kernel
theorem d_M_draw_66 : decode cc_M_draw 66 = .ok (.iinc 1 1, 3) := by decide +kernel
theorem d_M_draw_69 : decode cc_M_draw 69 = .ok (.goto (-23), 3) := by decide +kernel
theorem d_M_draw_72 : decode cc_M_draw 72 = .ok (.aload_n 0, 1) := by decide +kernel
theorem d_M_draw_73 : decode cc_M_draw 73 = .ok (.iconst 1, 1) := by decide +kernel
theorem d_M_draw_74 : decode cc_M_draw 74 = .ok (.putfield 100, 3) := by decide +kernel
theorem d_M_draw_77 : decode cc_M_draw 77 = .ok (.aload_n 0, 1) := by decide +kernel
theorem d_M_draw_78 : decode cc_M_draw 78 = .ok (.iconst (-1), 1) := by decide +kernel
theorem d_M_draw_79 : decode cc_M_draw 79 = .ok (.putfield 55, 3) := by decide +kernel
theorem d_M_draw_82 : decode cc_M_draw 82 = .ok (.aload_n 0, 1) := by decide +kernel
theorem d_M_draw_83 : decode cc_M_draw 83 = .ok (.invokevirtual 212, 3) := by decide +kernel
theorem d_M_draw_86 : decode cc_M_draw 86 = .ok (.return_, 1) := by decide +kernel
def L_M_draw_46 (K72 : St → Prop) (Q : St → Prop) : Nat → Int32 → St → Prop
  | 0, _, _ => False
  | n + 1, v1, z0 => (((z0.1 31 7) ≤ v1) → K72 z0) ∧ ((¬ (z0.1 31 7) ≤ v1) → vp_in v1 8 ∧ vp_in v1 8 ∧ ∀ z5 : St, z5 = wI z0 44 v1.toNatClampNeg (z0.1 48 v1.toNatClampNeg) → ∀ x6 : Int32, x6 = v1 + 1 → L_M_draw_46 K72 Q n x6 z5)
def J_M_draw_20 (Q : St → Prop) (t0 : Int32) (z0 : St) : Prop := ∀ z1 : St, z1 = wI z0 31 0 t0 → (((z1.1 31 0) ≤ 0) → P_M_counts z1 (fun (x3 : Int32) (z2 : St) => P_M_take (z2.2 31 30) z2 (fun (z4 : St) => ∃ k46 : Nat, L_M_draw_46 (fun (z7 : St) => ∀ z8 : St, z8 = wI z7 31 19 (1 : Int32) → ∀ z9 : St, z9 = wI z8 31 21 (-1 : Int32) → P_M_used z9 (fun (z10 : St) => Q z10)) Q k46 (0 : Int32) z4))) ∧ ((¬ (z1.1 31 0) ≤ 0) → Q z1)
def P_M_draw (z0 : St) (Q : St → Prop) : Prop := ((¬ (z0.1 31 19) = 0) → J_M_draw_20 Q (1 : Int32) z0) ∧ (((z0.1 31 19) = 0) → ((¬ (z0.1 31 29) = 0) → J_M_draw_20 Q (0 : Int32) z0) ∧ (((z0.1 31 29) = 0) → J_M_draw_20 Q (1 : Int32) z0))
set_option maxHeartbeats 4000000 in
set_option maxRecDepth 100000 in
theorem wL_M_draw_46 {K72 : St → Prop} {Q : St → Prop} (E : En p l s m meth c args cc_M_draw 2 R_M none G)
    (hK72 : ∀ (z0 : St) (ls : Array Slot) (H : Heap) (locs : List Loc), K72 z0 → lv_has ls 2 [(0, .ref (ha G 31))] → Wd G z0 s.heap H locs → W p l e rm_M_draw s m args below meth c H locs 0 0 (MQ below (QvR Q G) args s 0 0 (fr G)) (F0 m 72 ls [])) :
    ∀ (n : Nat) (v1 : Int32) (z0 : St) (ls : Array Slot) (H : Heap) (locs : List Loc), L_M_draw_46 K72 Q n v1 z0 → lv_has ls 2 [(0, .ref (ha G 31)), (1, .int v1)] → Wd G z0 s.heap H locs → W p l e rm_M_draw s m args below meth c H locs 0 0 (MQ below (QvR Q G) args s 0 0 (fr G)) (F0 m 46 ls []) := by
  obtain ⟨hx, hb, hml, hown, hr, hlk, hex, hE⟩ := id E
  intro n
  induction n with
  | zero => exact fun _ _ _ _ _ hP _ _ => hP.elim
  | succ n ih =>
    intro v1 z0 ls H locs hP hl hW
    refine lv_iload_n hx hb d_M_draw_46 rfl (lv_at hl 1 rfl) ?_
    refine lv_aload_n hx hb d_M_draw_47 rfl (lv_at hl 0 rfl) ?_
    refine ygf_31_7 hx hb hown hE hW (lk_M_26 hE) d_M_draw_48 ?_
    refine lv_icmp_ge (tgt := 72) hx hb d_M_draw_51 rfl (fun hc => ?_) (fun hc => ?_)
    · have hP := hP.1 hc
      exact hK72 _ _ _ _ hP (lv_sub hl [0] rfl) hW
    · have hP := hP.2 hc
      refine lv_aload_n hx hb d_M_draw_54 rfl (lv_at hl 0 rfl) ?_
      refine ygf_31_20 hx hb hown hE hW (lk_M_52 hE) d_M_draw_55 ?_
      refine lv_iload_n hx hb d_M_draw_58 rfl (lv_at hl 1 rfl) ?_
      refine lv_aload_n hx hb d_M_draw_59 rfl (lv_at hl 0 rfl) ?_
      refine ygf_31_33 hx hb hown hE hW (lk_M_67 hE) d_M_draw_60 ?_
      refine lv_iload_n hx hb d_M_draw_63 rfl (lv_at hl 1 rfl) ?_
      refine ya_48 hx hb hE hW hP.1 d_M_draw_64 ?_
      have hP := hP.2
      refine ys_44 hx hb hE hW hP.1 d_M_draw_65 (fun z5 H locs e_z5 hW => ?_)
      have hP := hP.2
      have hP := hP z5 e_z5
      obtain ⟨x6, e_x6⟩ : ∃ z : Int32, z = v1 + 1 := ⟨_, rfl⟩
      have hP := hP x6 e_x6
      refine lv_iinc (k := 1) (lv' := [(1, .int x6), (0, .ref (ha G 31))]) hx hb d_M_draw_66 hl rfl (ii_p1 e_x6) (by decide) rfl (fun ls hl => ?_)
      refine lv_goto (tgt := 46) hx hb d_M_draw_69 rfl ?_
      exact ih _ _ _ _ _ hP (lv_sub hl [1, 0] rfl) hW
set_option maxHeartbeats 4000000 in
set_option maxRecDepth 100000 in
theorem wJ_M_draw_20 {Q : St → Prop} (E : En p l s m meth c args cc_M_draw 2 R_M none G)
    (t0 : Int32) (z0 : St) (ls : Array Slot) (H : Heap) (locs : List Loc) (hP : J_M_draw_20 Q t0 z0) (hl : lv_has ls 2 [(0, .ref (ha G 31))]) (hW : Wd G z0 s.heap H locs) : W p l e rm_M_draw s m args below meth c H locs 0 0 (MQ below (QvR Q G) args s 0 0 (fr G)) (F0 m 20 ls [.int t0, .ref (ha G 31)]) := by
  obtain ⟨hx, hb, hml, hown, hr, hlk, hex, hE⟩ := id E
  refine ypf_31_0 hx hb hown hE hW (lk_M_70 hE) d_M_draw_20 (fun z1 H locs e_z1 hW => ?_)
  have hP := hP z1 e_z1
  refine lv_aload_n hx hb d_M_draw_23 rfl (lv_at hl 0 rfl) ?_
  refine ygf_31_0 hx hb hown hE hW (lk_M_70 hE) d_M_draw_24 ?_
  refine lv_if_le (tgt := 31) hx hb d_M_draw_27 rfl (fun hc => ?_) (fun hc => ?_)
  · have hP := hP.1 hc
    refine lv_aload_n hx hb d_M_draw_31 rfl (lv_at hl 0 rfl) ?_
    refine yc_i (yV (As := []) (rest := []) E (c_M_counts _ _ hP) (cw_M_155 hE) (yrv_31 hE hW) (by decide) hW hl.1 rfl rfl rfl d_M_draw_32) hW (fun x3 z2 H locs hP hW => ?_)
    refine lv_pop hx hb d_M_draw_35 rfl ?_
    refine lv_aload_n hx hb d_M_draw_36 rfl (lv_at hl 0 rfl) ?_
    refine lv_aload_n hx hb d_M_draw_37 rfl (lv_at hl 0 rfl) ?_
    refine ygf_31_30 hx hb hown hE hW (lk_M_209 hE) d_M_draw_38 ?_
    refine yc_v (yV (As := [.long (z2.2 31 30)]) (rest := []) E (c_M_take _ _ _ hP) (cw_M_178 hE) (yrv_31 hE hW) (by decide) hW hl.1 rfl rfl rfl d_M_draw_41) hW (fun z4 H locs hP hW => ?_)
    refine lv_iconst (v := 0) hx hb d_M_draw_44 (by decide) ?_
    refine lv_istore_n (lv' := [(1, .int (0 : Int32)), (0, .ref (ha G 31))]) hx hb d_M_draw_45 rfl hl (by decide) rfl (fun ls hl => ?_)
    obtain ⟨n2, hP⟩ := hP
    refine wL_M_draw_46 E ?_ n2 _ _ _ _ _ hP (lv_sub hl [1, 0] rfl) hW
    · intro z7 ls H locs hP hl hW
      refine lv_aload_n hx hb d_M_draw_72 rfl (lv_at hl 0 rfl) ?_
      refine lv_iconst (v := 1) hx hb d_M_draw_73 (by decide) ?_
      refine ypf_31_19 hx hb hown hE hW zb_1 (lk_M_100 hE) d_M_draw_74 (fun z8 H locs e_z8 hW => ?_)
      have hP := hP z8 e_z8
      refine lv_aload_n hx hb d_M_draw_77 rfl (lv_at hl 0 rfl) ?_
      refine lv_iconst (v := -1) hx hb d_M_draw_78 (by decide) ?_
      refine ypf_31_21 hx hb hown hE hW (lk_M_55 hE) d_M_draw_79 (fun z9 H locs e_z9 hW => ?_)
      have hP := hP z9 e_z9
      refine lv_aload_n hx hb d_M_draw_82 rfl (lv_at hl 0 rfl) ?_
      refine yc_v (yV (As := []) (rest := []) E (c_M_used _ _ hP) (cw_M_212 hE) (yrv_31 hE hW) (by decide) hW hl.1 rfl rfl rfl d_M_draw_83) hW (fun z10 H locs hP hW => ?_)
      exact yr_v hx hb hr hlk hW hP d_M_draw_86
  · have hP := hP.2 hc
    exact yr_v hx hb hr hlk hW hP d_M_draw_30
set_option maxHeartbeats 4000000 in
set_option maxRecDepth 100000 in
theorem c_M_draw {l : Launch} {G : GG} (z0 : St) (Q : St → Prop) (hP : P_M_draw z0 Q) : Ctv l y_M_draw cc_M_draw 2 none rm_M_draw G [.ref (ha G 31)] z0 Q := by
  refine Ctv.op (own := R_M) (by decide) rfl (Nat.le_of_ble_eq_true rfl) (fun p e s m args below meth c ls E hl hW => ?_)
  obtain ⟨hx, hb, hml, hown, hr, hlk, hex, hE⟩ := id E
  have hl : lv_has ls 2 [(0, .ref (ha G 31))] := hl
  refine lv_aload_n hx hb d_M_draw_0 rfl (lv_at hl 0 rfl) ?_
  refine lv_aload_n hx hb d_M_draw_1 rfl (lv_at hl 0 rfl) ?_
  refine ygf_31_19 hx hb hown hE hW (lk_M_100 hE) d_M_draw_2 ?_
  refine lv_if_ne (tgt := 15) hx hb d_M_draw_5 rfl (fun hc => ?_) (fun hc => ?_)
  · have hP := hP.1 hc
    refine lv_iconst (v := 1) hx hb d_M_draw_15 (by decide) ?_
    refine lv_goto (tgt := 20) hx hb d_M_draw_16 rfl ?_
    exact wJ_M_draw_20 E _ _ _ _ _ hP hl hW
  · have hP := hP.2 hc
    refine lv_aload_n hx hb d_M_draw_8 rfl (lv_at hl 0 rfl) ?_
    refine ygf_31_29 hx hb hown hE hW (lk_M_90 hE) d_M_draw_9 ?_
    refine lv_if_ne (tgt := 19) hx hb d_M_draw_12 rfl (fun hc => ?_) (fun hc => ?_)
    · have hP := hP.1 hc
      refine lv_iconst (v := 0) hx hb d_M_draw_19 (by decide) ?_
      exact wJ_M_draw_20 E _ _ _ _ _ hP hl hW
    · have hP := hP.2 hc
      refine lv_iconst (v := 1) hx hb d_M_draw_15 (by decide) ?_
      refine lv_goto (tgt := 20) hx hb d_M_draw_16 rfl ?_
      exact wJ_M_draw_20 E _ _ _ _ _ hP hl hW
theorem d_M_member_0 : decode cc_M_member 0 = .ok (.aload_n 0, 1) := by decide +kernel
theorem d_M_member_1 : decode cc_M_member 1 = .ok (.aload_n 0, 1) := by decide +kernel
theorem d_M_member_2 : decode cc_M_member 2 = .ok (.getfield 100, 3) := by decide +kernel
theorem d_M_member_5 : decode cc_M_member 5 = .ok (.ifCond .ne 7, 3) := by decide +kernel
theorem d_M_member_8 : decode cc_M_member 8 = .ok (.iconst 1, 1) := by decide +kernel
theorem d_M_member_9 : decode cc_M_member 9 = .ok (.goto 20, 3) := by decide +kernel
theorem d_M_member_12 : decode cc_M_member 12 = .ok (.iload_n 1, 1) := by decide +kernel
theorem d_M_member_13 : decode cc_M_member 13 = .ok (.ifCond .lt 11, 3) := by decide +kernel
theorem d_M_member_16 : decode cc_M_member 16 = .ok (.iload_n 1, 1) := by decide +kernel
theorem d_M_member_17 : decode cc_M_member 17 = .ok (.aload_n 0, 1) := by decide +kernel
theorem d_M_member_18 : decode cc_M_member 18 = .ok (.getfield 26, 3) := by decide +kernel
theorem d_M_member_21 : decode cc_M_member 21 = .ok (.if_icmp .lt 7, 3) := by decide +kernel
theorem d_M_member_24 : decode cc_M_member 24 = .ok (.iconst 2, 1) := by decide +kernel
theorem d_M_member_25 : decode cc_M_member 25 = .ok (.goto 4, 3) := by decide +kernel
theorem d_M_member_28 : decode cc_M_member 28 = .ok (.iconst 0, 1) := by decide +kernel
theorem d_M_member_29 : decode cc_M_member 29 = .ok (.putfield 70, 3) := by decide +kernel
theorem d_M_member_32 : decode cc_M_member 32 = .ok (.aload_n 0, 1) := by decide +kernel
theorem d_M_member_33 : decode cc_M_member 33 = .ok (.getfield 70, 3) := by decide +kernel
theorem d_M_member_36 : decode cc_M_member 36 = .ok (.ifCond .le 7, 3) := by decide +kernel
theorem d_M_member_39 : decode cc_M_member 39 = .ok (.iconst 0, 1) := by decide +kernel
theorem d_M_member_40 : decode cc_M_member 40 = .ok (.goto 9, 3) := by decide +kernel
theorem d_M_member_43 : decode cc_M_member 43 = .ok (.aload_n 0, 1) := by decide +kernel
theorem d_M_member_44 : decode cc_M_member 44 = .ok (.getfield 52, 3) := by decide +kernel
theorem d_M_member_47 : decode cc_M_member 47 = .ok (.iload_n 1, 1) := by decide +kernel
theorem d_M_member_48 : decode cc_M_member 48 = .ok (.iaload, 1) := by decide +kernel
theorem d_M_member_49 : decode cc_M_member 49 = .ok (.ireturn, 1) := by decide +kernel
def J_M_member_29 (Q : Int32 → St → Prop) (v1 : Int32) (t0 : Int32) (z0 : St) : Prop := ∀ z1 : St, z1 = wI z0 31 0 t0 → (((z1.1 31 0) ≤ 0) → vp_in v1 8 ∧ Q (z1.1 44 v1.toNatClampNeg) z1) ∧ ((¬ (z1.1 31 0) ≤ 0) → Q (0 : Int32) z1)
def P_M_member (a1 : Int32) (z0 : St) (Q : Int32 → St → Prop) : Prop := ((¬ (z0.1 31 19) = 0) → ((a1 < 0) → J_M_member_29 Q a1 (2 : Int32) z0) ∧ ((¬ a1 < 0) → ((a1 < (z0.1 31 7)) → J_M_member_29 Q a1 (0 : Int32) z0) ∧ ((¬ a1 < (z0.1 31 7)) → J_M_member_29 Q a1 (2 : Int32) z0))) ∧ (((z0.1 31 19) = 0) → J_M_member_29 Q a1 (1 : Int32) z0)
set_option maxHeartbeats 4000000 in
set_option maxRecDepth 100000 in
theorem wJ_M_member_29 {Q : Int32 → St → Prop} (E : En p l s m meth c args cc_M_member 2 R_M (some .int) G)
    (v1 : Int32) (t0 : Int32) (z0 : St) (ls : Array Slot) (H : Heap) (locs : List Loc) (hP : J_M_member_29 Q v1 t0 z0) (hl : lv_has ls 2 [(0, .ref (ha G 31)), (1, .int v1)]) (hW : Wd G z0 s.heap H locs) : W p l e rm_M_member s m args below meth c H locs 0 0 (MQ below (QiR Q G) args s 0 0 (fr G)) (F0 m 29 ls [.int t0, .ref (ha G 31)]) := by
  obtain ⟨hx, hb, hml, hown, hr, hlk, hex, hE⟩ := id E
  refine ypf_31_0 hx hb hown hE hW (lk_M_70 hE) d_M_member_29 (fun z1 H locs e_z1 hW => ?_)
  have hP := hP z1 e_z1
  refine lv_aload_n hx hb d_M_member_32 rfl (lv_at hl 0 rfl) ?_
  refine ygf_31_0 hx hb hown hE hW (lk_M_70 hE) d_M_member_33 ?_
  refine lv_if_le (tgt := 43) hx hb d_M_member_36 rfl (fun hc => ?_) (fun hc => ?_)
  · have hP := hP.1 hc
    refine lv_aload_n hx hb d_M_member_43 rfl (lv_at hl 0 rfl) ?_
    refine ygf_31_20 hx hb hown hE hW (lk_M_52 hE) d_M_member_44 ?_
    refine lv_iload_n hx hb d_M_member_47 rfl (lv_at hl 1 rfl) ?_
    refine ya_44 hx hb hE hW hP.1 d_M_member_48 ?_
    have hP := hP.2
    exact yr_i hx hb hr hlk hW hP d_M_member_49
  · have hP := hP.2 hc
    refine lv_iconst (v := 0) hx hb d_M_member_39 (by decide) ?_
    refine lv_goto (tgt := 49) hx hb d_M_member_40 rfl ?_
    exact yr_i hx hb hr hlk hW hP d_M_member_49
set_option maxHeartbeats 4000000 in
set_option maxRecDepth 100000 in
theorem c_M_member {l : Launch} {G : GG} (a1 : Int32) (z0 : St) (Q : Int32 → St → Prop) (hP : P_M_member a1 z0 Q) : Cti l y_M_member cc_M_member 2 (some .int) rm_M_member G [.ref (ha G 31), .int a1] z0 Q := by
  refine Cti.op (own := R_M) (by decide) rfl (Nat.le_of_ble_eq_true rfl) (fun p e s m args below meth c ls E hl hW => ?_)
  obtain ⟨hx, hb, hml, hown, hr, hlk, hex, hE⟩ := id E
  have hl : lv_has ls 2 [(0, .ref (ha G 31)), (1, .int a1)] := hl
  refine lv_aload_n hx hb d_M_member_0 rfl (lv_at hl 0 rfl) ?_
  refine lv_aload_n hx hb d_M_member_1 rfl (lv_at hl 0 rfl) ?_
  refine ygf_31_19 hx hb hown hE hW (lk_M_100 hE) d_M_member_2 ?_
  refine lv_if_ne (tgt := 12) hx hb d_M_member_5 rfl (fun hc => ?_) (fun hc => ?_)
  · have hP := hP.1 hc
    refine lv_iload_n hx hb d_M_member_12 rfl (lv_at hl 1 rfl) ?_
    refine lv_if_lt (tgt := 24) hx hb d_M_member_13 rfl (fun hc => ?_) (fun hc => ?_)
    · have hP := hP.1 hc
      refine lv_iconst (v := 2) hx hb d_M_member_24 (by decide) ?_
      refine lv_goto (tgt := 29) hx hb d_M_member_25 rfl ?_
      exact wJ_M_member_29 E _ _ _ _ _ _ hP hl hW
    · have hP := hP.2 hc
      refine lv_iload_n hx hb d_M_member_16 rfl (lv_at hl 1 rfl) ?_
      refine lv_aload_n hx hb d_M_member_17 rfl (lv_at hl 0 rfl) ?_
      refine ygf_31_7 hx hb hown hE hW (lk_M_26 hE) d_M_member_18 ?_
      refine lv_icmp_lt (tgt := 28) hx hb d_M_member_21 rfl (fun hc => ?_) (fun hc => ?_)
      · have hP := hP.1 hc
        refine lv_iconst (v := 0) hx hb d_M_member_28 (by decide) ?_
        exact wJ_M_member_29 E _ _ _ _ _ _ hP hl hW
      · have hP := hP.2 hc
        refine lv_iconst (v := 2) hx hb d_M_member_24 (by decide) ?_
        refine lv_goto (tgt := 29) hx hb d_M_member_25 rfl ?_
        exact wJ_M_member_29 E _ _ _ _ _ _ hP hl hW
  · have hP := hP.2 hc
    refine lv_iconst (v := 1) hx hb d_M_member_8 (by decide) ?_
    refine lv_goto (tgt := 29) hx hb d_M_member_9 rfl ?_
    exact wJ_M_member_29 E _ _ _ _ _ _ hP hl hW
theorem d_M_dropOut_0 : decode cc_M_dropOut 0 = .ok (.aload_n 0, 1) := by decide +kernel
theorem d_M_dropOut_1 : decode cc_M_dropOut 1 = .ok (.aload_n 0, 1) := by decide +kernel
theorem d_M_dropOut_2 : decode cc_M_dropOut 2 = .ok (.getfield 100, 3) := by decide +kernel
theorem d_M_dropOut_5 : decode cc_M_dropOut 5 = .ok (.ifCond .eq 11, 3) := by decide +kernel
theorem d_M_dropOut_8 : decode cc_M_dropOut 8 = .ok (.aload_n 0, 1) := by decide +kernel
theorem d_M_dropOut_9 : decode cc_M_dropOut 9 = .ok (.getfield 55, 3) := by decide +kernel
theorem d_M_dropOut_12 : decode cc_M_dropOut 12 = .ok (.iconst (-1), 1) := by decide +kernel
theorem d_M_dropOut_13 : decode cc_M_dropOut 13 = .ok (.if_icmp .eq 7, 3) := by decide +kernel
theorem d_M_dropOut_16 : decode cc_M_dropOut 16 = .ok (.iconst 1, 1) := by decide +kernel
theorem d_M_dropOut_17 : decode cc_M_dropOut 17 = .ok (.goto 21, 3) := by decide +kernel
theorem d_M_dropOut_20 : decode cc_M_dropOut 20 = .ok (.iload_n 1, 1) := by decide +kernel
theorem d_M_dropOut_21 : decode cc_M_dropOut 21 = .ok (.ifCond .lt 12, 3) := by decide +kernel
theorem d_M_dropOut_24 : decode cc_M_dropOut 24 = .ok (.aload_n 0, 1) := by decide +kernel
theorem d_M_dropOut_25 : decode cc_M_dropOut 25 = .ok (.iload_n 1, 1) := by decide +kernel
theorem d_M_dropOut_26 : decode cc_M_dropOut 26 = .ok (.invokevirtual 215, 3) := by decide +kernel
theorem d_M_dropOut_29 : decode cc_M_dropOut 29 = .ok (.iconst (-1), 1) := by decide +kernel
theorem d_M_dropOut_30 : decode cc_M_dropOut 30 = .ok (.if_icmp .ne 7, 3) := by decide +kernel
theorem d_M_dropOut_33 : decode cc_M_dropOut 33 = .ok (.iconst 2, 1) := by decide +kernel
theorem d_M_dropOut_34 : decode cc_M_dropOut 34 = .ok (.goto 4, 3) := by decide +kernel
theorem d_M_dropOut_37 : decode cc_M_dropOut 37 = .ok (.iconst 0, 1) := by decide +kernel
theorem d_M_dropOut_38 : decode cc_M_dropOut 38 = .ok (.putfield 70, 3) := by decide +kernel
theorem d_M_dropOut_41 : decode cc_M_dropOut 41 = .ok (.aload_n 0, 1) := by decide +kernel
theorem d_M_dropOut_42 : decode cc_M_dropOut 42 = .ok (.getfield 70, 3) := by decide +kernel
theorem d_M_dropOut_45 : decode cc_M_dropOut 45 = .ok (.ifCond .le 4, 3) := by decide +kernel
theorem d_M_dropOut_48 : decode cc_M_dropOut 48 = .ok (.return_, 1) := by decide +kernel
theorem d_M_dropOut_49 : decode cc_M_dropOut 49 = .ok (.aload_n 0, 1) := by decide +kernel
theorem d_M_dropOut_50 : decode cc_M_dropOut 50 = .ok (.aload_n 0, 1) := by decide +kernel
theorem d_M_dropOut_51 : decode cc_M_dropOut 51 = .ok (.iload_n 1, 1) := by decide +kernel
theorem d_M_dropOut_52 : decode cc_M_dropOut 52 = .ok (.invokevirtual 215, 3) := by decide +kernel
theorem d_M_dropOut_55 : decode cc_M_dropOut 55 = .ok (.putfield 55, 3) := by decide +kernel
theorem d_M_dropOut_58 : decode cc_M_dropOut 58 = .ok (.aload_n 0, 1) := by decide +kernel
theorem d_M_dropOut_59 : decode cc_M_dropOut 59 = .ok (.getfield 52, 3) := by decide +kernel
theorem d_M_dropOut_62 : decode cc_M_dropOut 62 = .ok (.aload_n 0, 1) := by decide +kernel
theorem d_M_dropOut_63 : decode cc_M_dropOut 63 = .ok (.getfield 55, 3) := by decide +kernel
theorem d_M_dropOut_66 : decode cc_M_dropOut 66 = .ok (.iconst (-1), 1) := by decide +kernel
theorem d_M_dropOut_67 : decode cc_M_dropOut 67 = .ok (.iastore, 1) := by decide +kernel
theorem d_M_dropOut_68 : decode cc_M_dropOut 68 = .ok (.aload_n 0, 1) := by decide +kernel
theorem d_M_dropOut_69 : decode cc_M_dropOut 69 = .ok (.getfield 58, 3) := by decide +kernel
theorem d_M_dropOut_72 : decode cc_M_dropOut 72 = .ok (.iload_n 1, 1) := by decide +kernel
theorem d_M_dropOut_73 : decode cc_M_dropOut 73 = .ok (.iconst 1, 1) := by decide +kernel
theorem d_M_dropOut_74 : decode cc_M_dropOut 74 = .ok (.bastore, 1) := by decide +kernel
theorem d_M_dropOut_75 : decode cc_M_dropOut 75 = .ok (.return_, 1) := by decide +kernel
def J_M_dropOut_38 (Q : St → Prop) (v1 : Int32) (t0 : Int32) (z0 : St) : Prop := ∀ z1 : St, z1 = wI z0 31 0 t0 → (((z1.1 31 0) ≤ 0) → P_M_placeOf v1 z1 (fun (x3 : Int32) (z2 : St) => ∀ z4 : St, z4 = wI z2 31 21 x3 → vp_in (z4.1 31 21) 8 ∧ ∀ z5 : St, z5 = wI z4 44 (z4.1 31 21).toNatClampNeg (-1 : Int32) → vp_in v1 40 ∧ ∀ z6 : St, z6 = wI z5 45 v1.toNatClampNeg (1 : Int32) → Q z6)) ∧ ((¬ (z1.1 31 0) ≤ 0) → Q z1)
def P_M_dropOut (a1 : Int32) (z0 : St) (Q : St → Prop) : Prop := (((z0.1 31 19) = 0) → J_M_dropOut_38 Q a1 (1 : Int32) z0) ∧ ((¬ (z0.1 31 19) = 0) → (((z0.1 31 21) = (-1 : Int32)) → ((a1 < 0) → J_M_dropOut_38 Q a1 (2 : Int32) z0) ∧ ((¬ a1 < 0) → P_M_placeOf a1 z0 (fun (x8 : Int32) (z7 : St) => ((¬ x8 = (-1 : Int32)) → J_M_dropOut_38 Q a1 (0 : Int32) z7) ∧ ((x8 = (-1 : Int32)) → J_M_dropOut_38 Q a1 (2 : Int32) z7)))) ∧ ((¬ (z0.1 31 21) = (-1 : Int32)) → J_M_dropOut_38 Q a1 (1 : Int32) z0))
set_option maxHeartbeats 4000000 in
set_option maxRecDepth 100000 in
theorem wJ_M_dropOut_38 {Q : St → Prop} (E : En p l s m meth c args cc_M_dropOut 2 R_M none G)
    (v1 : Int32) (t0 : Int32) (z0 : St) (ls : Array Slot) (H : Heap) (locs : List Loc) (hP : J_M_dropOut_38 Q v1 t0 z0) (hl : lv_has ls 2 [(0, .ref (ha G 31)), (1, .int v1)]) (hW : Wd G z0 s.heap H locs) : W p l e rm_M_dropOut s m args below meth c H locs 0 0 (MQ below (QvR Q G) args s 0 0 (fr G)) (F0 m 38 ls [.int t0, .ref (ha G 31)]) := by
  obtain ⟨hx, hb, hml, hown, hr, hlk, hex, hE⟩ := id E
  refine ypf_31_0 hx hb hown hE hW (lk_M_70 hE) d_M_dropOut_38 (fun z1 H locs e_z1 hW => ?_)
  have hP := hP z1 e_z1
  refine lv_aload_n hx hb d_M_dropOut_41 rfl (lv_at hl 0 rfl) ?_
  refine ygf_31_0 hx hb hown hE hW (lk_M_70 hE) d_M_dropOut_42 ?_
  refine lv_if_le (tgt := 49) hx hb d_M_dropOut_45 rfl (fun hc => ?_) (fun hc => ?_)
  · have hP := hP.1 hc
    refine lv_aload_n hx hb d_M_dropOut_49 rfl (lv_at hl 0 rfl) ?_
    refine lv_aload_n hx hb d_M_dropOut_50 rfl (lv_at hl 0 rfl) ?_
    refine lv_iload_n hx hb d_M_dropOut_51 rfl (lv_at hl 1 rfl) ?_
    refine yc_i (yV (As := [.int v1]) (rest := [.ref (ha G 31)]) E (c_M_placeOf _ _ _ hP) (cw_M_215 hE) (yrv_31 hE hW) (by decide) hW hl.1 rfl rfl rfl d_M_dropOut_52) hW (fun x3 z2 H locs hP hW => ?_)
    refine ypf_31_21 hx hb hown hE hW (lk_M_55 hE) d_M_dropOut_55 (fun z4 H locs e_z4 hW => ?_)
    have hP := hP z4 e_z4
    refine lv_aload_n hx hb d_M_dropOut_58 rfl (lv_at hl 0 rfl) ?_
    refine ygf_31_20 hx hb hown hE hW (lk_M_52 hE) d_M_dropOut_59 ?_
    refine lv_aload_n hx hb d_M_dropOut_62 rfl (lv_at hl 0 rfl) ?_
    refine ygf_31_21 hx hb hown hE hW (lk_M_55 hE) d_M_dropOut_63 ?_
    refine lv_iconst (v := -1) hx hb d_M_dropOut_66 (by decide) ?_
    refine ys_44 hx hb hE hW hP.1 d_M_dropOut_67 (fun z5 H locs e_z5 hW => ?_)
    have hP := hP.2
    have hP := hP z5 e_z5
    refine lv_aload_n hx hb d_M_dropOut_68 rfl (lv_at hl 0 rfl) ?_
    refine ygf_31_22 hx hb hown hE hW (lk_M_58 hE) d_M_dropOut_69 ?_
    refine lv_iload_n hx hb d_M_dropOut_72 rfl (lv_at hl 1 rfl) ?_
    refine lv_iconst (v := 1) hx hb d_M_dropOut_73 (by decide) ?_
    refine ys_45 hx hb hE hW zb_1 hP.1 d_M_dropOut_74 (fun z6 H locs e_z6 hW => ?_)
    have hP := hP.2
    have hP := hP z6 e_z6
    exact yr_v hx hb hr hlk hW hP d_M_dropOut_75
  · have hP := hP.2 hc
    exact yr_v hx hb hr hlk hW hP d_M_dropOut_48
set_option maxHeartbeats 4000000 in
set_option maxRecDepth 100000 in
theorem c_M_dropOut {l : Launch} {G : GG} (a1 : Int32) (z0 : St) (Q : St → Prop) (hP : P_M_dropOut a1 z0 Q) : Ctv l y_M_dropOut cc_M_dropOut 2 none rm_M_dropOut G [.ref (ha G 31), .int a1] z0 Q := by
  refine Ctv.op (own := R_M) (by decide) rfl (Nat.le_of_ble_eq_true rfl) (fun p e s m args below meth c ls E hl hW => ?_)
  obtain ⟨hx, hb, hml, hown, hr, hlk, hex, hE⟩ := id E
  have hl : lv_has ls 2 [(0, .ref (ha G 31)), (1, .int a1)] := hl
  refine lv_aload_n hx hb d_M_dropOut_0 rfl (lv_at hl 0 rfl) ?_
  refine lv_aload_n hx hb d_M_dropOut_1 rfl (lv_at hl 0 rfl) ?_
  refine ygf_31_19 hx hb hown hE hW (lk_M_100 hE) d_M_dropOut_2 ?_
  refine lv_if_eq (tgt := 16) hx hb d_M_dropOut_5 rfl (fun hc => ?_) (fun hc => ?_)
  · have hP := hP.1 hc
    refine lv_iconst (v := 1) hx hb d_M_dropOut_16 (by decide) ?_
    refine lv_goto (tgt := 38) hx hb d_M_dropOut_17 rfl ?_
    exact wJ_M_dropOut_38 E _ _ _ _ _ _ hP hl hW
  · have hP := hP.2 hc
    refine lv_aload_n hx hb d_M_dropOut_8 rfl (lv_at hl 0 rfl) ?_
    refine ygf_31_21 hx hb hown hE hW (lk_M_55 hE) d_M_dropOut_9 ?_
    refine lv_iconst (v := -1) hx hb d_M_dropOut_12 (by decide) ?_
    refine lv_icmp_eq (tgt := 20) hx hb d_M_dropOut_13 rfl (fun hc => ?_) (fun hc => ?_)
    · have hP := hP.1 hc
      refine lv_iload_n hx hb d_M_dropOut_20 rfl (lv_at hl 1 rfl) ?_
      refine lv_if_lt (tgt := 33) hx hb d_M_dropOut_21 rfl (fun hc => ?_) (fun hc => ?_)
      · have hP := hP.1 hc
        refine lv_iconst (v := 2) hx hb d_M_dropOut_33 (by decide) ?_
        refine lv_goto (tgt := 38) hx hb d_M_dropOut_34 rfl ?_
        exact wJ_M_dropOut_38 E _ _ _ _ _ _ hP hl hW
      · have hP := hP.2 hc
        refine lv_aload_n hx hb d_M_dropOut_24 rfl (lv_at hl 0 rfl) ?_
        refine lv_iload_n hx hb d_M_dropOut_25 rfl (lv_at hl 1 rfl) ?_
        refine yc_i (yV (As := [.int a1]) (rest := [.ref (ha G 31)]) E (c_M_placeOf _ _ _ hP) (cw_M_215 hE) (yrv_31 hE hW) (by decide) hW hl.1 rfl rfl rfl d_M_dropOut_26) hW (fun x8 z7 H locs hP hW => ?_)
        refine lv_iconst (v := -1) hx hb d_M_dropOut_29 (by decide) ?_
        refine lv_icmp_ne (tgt := 37) hx hb d_M_dropOut_30 rfl (fun hc => ?_) (fun hc => ?_)
        · have hP := hP.1 hc
          refine lv_iconst (v := 0) hx hb d_M_dropOut_37 (by decide) ?_
          exact wJ_M_dropOut_38 E _ _ _ _ _ _ hP hl hW
        · have hP := hP.2 hc
          refine lv_iconst (v := 2) hx hb d_M_dropOut_33 (by decide) ?_
          refine lv_goto (tgt := 38) hx hb d_M_dropOut_34 rfl ?_
          exact wJ_M_dropOut_38 E _ _ _ _ _ _ hP hl hW
    · have hP := hP.2 hc
      refine lv_iconst (v := 1) hx hb d_M_dropOut_16 (by decide) ?_
      refine lv_goto (tgt := 38) hx hb d_M_dropOut_17 rfl ?_
      exact wJ_M_dropOut_38 E _ _ _ _ _ _ hP hl hW
theorem d_M_candidateAt_0 : decode cc_M_candidateAt 0 = .ok (.aload_n 0, 1) := by decide +kernel
theorem d_M_candidateAt_1 : decode cc_M_candidateAt 1 = .ok (.invokevirtual 221, 3) := by decide +kernel
theorem d_M_candidateAt_4 : decode cc_M_candidateAt 4 = .ok (.istore_n 3, 1) := by decide +kernel
theorem d_M_candidateAt_5 : decode cc_M_candidateAt 5 = .ok (.lload_n 1, 1) := by decide +kernel
theorem d_M_candidateAt_6 : decode cc_M_candidateAt 6 = .ok (.lstore 4, 2) := by decide +kernel
theorem d_M_candidateAt_8 : decode cc_M_candidateAt 8 = .ok (.iconst 0, 1) := by decide +kernel
theorem d_M_candidateAt_9 : decode cc_M_candidateAt 9 = .ok (.istore 6, 2) := by decide +kernel
theorem d_M_candidateAt_11 : decode cc_M_candidateAt 11 = .ok (.iload 6, 2) := by decide +kernel
theorem d_M_candidateAt_13 : decode cc_M_candidateAt 13 = .ok (.aload_n 0, 1) := by decide +kernel
theorem d_M_candidateAt_14 : decode cc_M_candidateAt 14 = .ok (.getfield 76, 3) := by decide +kernel
theorem d_M_candidateAt_17 : decode cc_M_candidateAt 17 = .ok (.if_icmp .ge 38, 3) := by decide +kernel
theorem d_M_candidateAt_20 : decode cc_M_candidateAt 20 = .ok (.aload_n 0, 1) := by decide +kernel
theorem d_M_candidateAt_21 : decode cc_M_candidateAt 21 = .ok (.iload 6, 2) := by decide +kernel
theorem d_M_candidateAt_23 : decode cc_M_candidateAt 23 = .ok (.iload_n 3, 1) := by decide +kernel
theorem d_M_candidateAt_24 : decode cc_M_candidateAt 24 = .ok (.invokevirtual 224, 3) := by decide +kernel
theorem d_M_candidateAt_27 : decode cc_M_candidateAt 27 = .ok (.ifCond .ne 6, 3) := by decide +kernel
theorem d_M_candidateAt_30 : decode cc_M_candidateAt 30 = .ok (.goto 19, 3) := by decide +kernel
theorem d_M_candidateAt_33 : decode cc_M_candidateAt 33 = .ok (.lload 4, 2) := by decide +kernel
theorem d_M_candidateAt_35 : decode cc_M_candidateAt 35 = .ok (.lconst 0, 1) := by decide +kernel
theorem d_M_candidateAt_36 : decode cc_M_candidateAt 36 = .ok (.lcmp, 1) := by decide +kernel
theorem d_M_candidateAt_37 : decode cc_M_candidateAt 37 = .ok (.ifCond .ne 6, 3) := by decide +kernel
theorem d_M_candidateAt_40 : decode cc_M_candidateAt 40 = .ok (.iload 6, 2) := by decide +kernel
theorem d_M_candidateAt_42 : decode cc_M_candidateAt 42 = .ok (.ireturn, 1) := by decide +kernel
theorem d_M_candidateAt_43 : decode cc_M_candidateAt 43 = .ok (.lload 4, 2) := by decide +kernel
theorem d_M_candidateAt_45 : decode cc_M_candidateAt 45 = .ok (.lconst 1, 1) := by decide +kernel
theorem d_M_candidateAt_46 : decode cc_M_candidateAt 46 = .ok (.lsub, 1) := by decide +kernel
theorem d_M_candidateAt_47 : decode cc_M_candidateAt 47 = .ok (.lstore 4, 2) := by decide +kernel
theorem d_M_candidateAt_49 : decode cc_M_candidateAt 49 = .ok (.iinc 6 1, 3) := by decide +kernel
theorem d_M_candidateAt_52 : decode cc_M_candidateAt 52 = .ok (.goto (-41), 3) := by decide +kernel
theorem d_M_candidateAt_55 : decode cc_M_candidateAt 55 = .ok (.iconst (-1), 1) := by decide +kernel
theorem d_M_candidateAt_56 : decode cc_M_candidateAt 56 = .ok (.ireturn, 1) := by decide +kernel
def L_M_candidateAt_11 (Q : Int32 → St → Prop) : Nat → Int32 → Int64 → Int32 → St → Prop
  | 0, _, _, _, _ => False
  | n + 1, v3, v4, v6, z0 => (((z0.1 31 1) ≤ v6) → Q (-1 : Int32) z0) ∧ ((¬ (z0.1 31 1) ≤ v6) → P_M_isCandidate v6 v3 z0 (fun (x4 : Int32) (z3 : St) => ((¬ x4 = 0) → ((¬ v4 = (0 : Int64)) → ∀ x5 : Int64, x5 = v4 - (1 : Int64) → ∀ x6 : Int32, x6 = v6 + 1 → L_M_candidateAt_11 Q n v3 x5 x6 z3) ∧ ((v4 = (0 : Int64)) → Q v6 z3)) ∧ ((x4 = 0) → ∀ x7 : Int32, x7 = v6 + 1 → L_M_candidateAt_11 Q n v3 v4 x7 z3)))
def P_M_candidateAt (a1 : Int64) (z0 : St) (Q : Int32 → St → Prop) : Prop := P_M_leastBreach z0 (fun (x2 : Int32) (z1 : St) => ∃ k11 : Nat, L_M_candidateAt_11 Q k11 x2 a1 (0 : Int32) z1)
set_option maxHeartbeats 4000000 in
set_option maxRecDepth 100000 in
theorem wL_M_candidateAt_11 {Q : Int32 → St → Prop} (E : En p l s m meth c args cc_M_candidateAt 7 R_M (some .int) G) :
    ∀ (n : Nat) (v3 : Int32) (v4 : Int64) (v6 : Int32) (z0 : St) (ls : Array Slot) (H : Heap) (locs : List Loc), L_M_candidateAt_11 Q n v3 v4 v6 z0 → lv_has ls 7 [(0, .ref (ha G 31)), (3, .int v3), (4, .long v4), (6, .int v6)] → Wd G z0 s.heap H locs → W p l e rm_M_candidateAt s m args below meth c H locs 0 0 (MQ below (QiR Q G) args s 0 0 (fr G)) (F0 m 11 ls []) := by
  obtain ⟨hx, hb, hml, hown, hr, hlk, hex, hE⟩ := id E
  intro n
  induction n with
  | zero => exact fun _ _ _ _ _ _ _ hP _ _ => hP.elim
  | succ n ih =>
    intro v3 v4 v6 z0 ls H locs hP hl hW
    refine lv_iload hx hb d_M_candidateAt_11 (lv_at hl 3 rfl) ?_
    refine lv_aload_n hx hb d_M_candidateAt_13 rfl (lv_at hl 0 rfl) ?_
    refine ygf_31_1 hx hb hown hE hW (lk_M_76 hE) d_M_candidateAt_14 ?_
    refine lv_icmp_ge (tgt := 55) hx hb d_M_candidateAt_17 rfl (fun hc => ?_) (fun hc => ?_)
    · have hP := hP.1 hc
      refine lv_iconst (v := -1) hx hb d_M_candidateAt_55 (by decide) ?_
      exact yr_i hx hb hr hlk hW hP d_M_candidateAt_56
    · have hP := hP.2 hc
      refine lv_aload_n hx hb d_M_candidateAt_20 rfl (lv_at hl 0 rfl) ?_
      refine lv_iload hx hb d_M_candidateAt_21 (lv_at hl 3 rfl) ?_
      refine lv_iload_n hx hb d_M_candidateAt_23 rfl (lv_at hl 1 rfl) ?_
      refine yc_i (yV (As := [.int v6, .int v3]) (rest := []) E (c_M_isCandidate _ _ _ _ hP) (cw_M_224 hE) (yrv_31 hE hW) (by decide) hW hl.1 rfl rfl rfl d_M_candidateAt_24) hW (fun x4 z3 H locs hP hW => ?_)
      refine lv_if_ne (tgt := 33) hx hb d_M_candidateAt_27 rfl (fun hc => ?_) (fun hc => ?_)
      · have hP := hP.1 hc
        refine lv_lload hx hb d_M_candidateAt_33 (lv_at hl 2 rfl) ?_
        refine lv_lconst (v := 0) hx hb d_M_candidateAt_35 (by decide) ?_
        refine W.lcmp hx hb d_M_candidateAt_36 ?_
        refine lv_if_ne (tgt := 43) hx hb d_M_candidateAt_37 rfl (fun hc => ?_) (fun hc => ?_)
        · have hP := hP.1 (lgc_net hc)
          refine lv_lload hx hb d_M_candidateAt_43 (lv_at hl 2 rfl) ?_
          refine lv_lconst (v := 1) hx hb d_M_candidateAt_45 (by decide) ?_
          refine lv_lsub hx hb d_M_candidateAt_46 ?_
          refine lv_topl (fun x5 e_x5 => ?_)
          have hP := hP x5 e_x5
          refine lv_lstore (lv' := [(4, .long x5), (0, .ref (ha G 31)), (3, .int v3), (6, .int v6)]) hx hb d_M_candidateAt_47 hl (by decide) rfl (fun ls hl => ?_)
          obtain ⟨x6, e_x6⟩ : ∃ z : Int32, z = v6 + 1 := ⟨_, rfl⟩
          have hP := hP x6 e_x6
          refine lv_iinc (k := 3) (lv' := [(6, .int x6), (4, .long x5), (0, .ref (ha G 31)), (3, .int v3)]) hx hb d_M_candidateAt_49 hl rfl (ii_p1 e_x6) (by decide) rfl (fun ls hl => ?_)
          refine lv_goto (tgt := 11) hx hb d_M_candidateAt_52 rfl ?_
          exact ih _ _ _ _ _ _ _ hP (lv_sub hl [2, 3, 1, 0] rfl) hW
        · have hP := hP.2 (lgc_nef hc)
          refine lv_iload hx hb d_M_candidateAt_40 (lv_at hl 3 rfl) ?_
          exact yr_i hx hb hr hlk hW hP d_M_candidateAt_42
      · have hP := hP.2 hc
        refine lv_goto (tgt := 49) hx hb d_M_candidateAt_30 rfl ?_
        obtain ⟨x7, e_x7⟩ : ∃ z : Int32, z = v6 + 1 := ⟨_, rfl⟩
        have hP := hP x7 e_x7
        refine lv_iinc (k := 3) (lv' := [(6, .int x7), (0, .ref (ha G 31)), (3, .int v3), (4, .long v4)]) hx hb d_M_candidateAt_49 hl rfl (ii_p1 e_x7) (by decide) rfl (fun ls hl => ?_)
        refine lv_goto (tgt := 11) hx hb d_M_candidateAt_52 rfl ?_
        exact ih _ _ _ _ _ _ _ hP (lv_sub hl [1, 2, 3, 0] rfl) hW
set_option maxHeartbeats 4000000 in
set_option maxRecDepth 100000 in
theorem c_M_candidateAt {l : Launch} {G : GG} (a1 : Int64) (z0 : St) (Q : Int32 → St → Prop) (hP : P_M_candidateAt a1 z0 Q) : Cti l y_M_candidateAt cc_M_candidateAt 7 (some .int) rm_M_candidateAt G [.ref (ha G 31), .long a1] z0 Q := by
  refine Cti.op (own := R_M) (by decide) rfl (Nat.le_of_ble_eq_true rfl) (fun p e s m args below meth c ls E hl hW => ?_)
  obtain ⟨hx, hb, hml, hown, hr, hlk, hex, hE⟩ := id E
  have hl : lv_has ls 7 [(0, .ref (ha G 31)), (1, .long a1)] := hl
  refine lv_aload_n hx hb d_M_candidateAt_0 rfl (lv_at hl 0 rfl) ?_
  refine yc_i (yV (As := []) (rest := []) E (c_M_leastBreach _ _ hP) (cw_M_221 hE) (yrv_31 hE hW) (by decide) hW hl.1 rfl rfl rfl d_M_candidateAt_1) hW (fun x2 z1 H locs hP hW => ?_)
  refine lv_istore_n (lv' := [(3, .int x2), (0, .ref (ha G 31)), (1, .long a1)]) hx hb d_M_candidateAt_4 rfl hl (by decide) rfl (fun ls hl => ?_)
  refine lv_lload_n hx hb d_M_candidateAt_5 rfl (lv_at hl 2 rfl) ?_
  refine lv_lstore (lv' := [(4, .long a1), (3, .int x2), (0, .ref (ha G 31)), (1, .long a1)]) hx hb d_M_candidateAt_6 hl (by decide) rfl (fun ls hl => ?_)
  refine lv_iconst (v := 0) hx hb d_M_candidateAt_8 (by decide) ?_
  refine lv_istore (lv' := [(6, .int (0 : Int32)), (4, .long a1), (3, .int x2), (0, .ref (ha G 31)), (1, .long a1)]) hx hb d_M_candidateAt_9 hl (by decide) rfl (fun ls hl => ?_)
  obtain ⟨n2, hP⟩ := hP
  refine wL_M_candidateAt_11 E n2 _ _ _ _ _ _ _ hP (lv_sub hl [3, 2, 1, 0] rfl) hW
theorem d_M_candidate_0 : decode cc_M_candidate 0 = .ok (.aload_n 0, 1) := by decide +kernel
theorem d_M_candidate_1 : decode cc_M_candidate 1 = .ok (.iload_n 1, 1) := by decide +kernel
theorem d_M_candidate_2 : decode cc_M_candidate 2 = .ok (.ifCond .ge 7, 3) := by decide +kernel
theorem d_M_candidate_5 : decode cc_M_candidate 5 = .ok (.iconst 1, 1) := by decide +kernel
theorem d_M_candidate_6 : decode cc_M_candidate 6 = .ok (.goto 4, 3) := by decide +kernel
theorem d_M_candidate_9 : decode cc_M_candidate 9 = .ok (.iconst 0, 1) := by decide +kernel
theorem d_M_candidate_10 : decode cc_M_candidate 10 = .ok (.putfield 70, 3) := by decide +kernel
theorem d_M_candidate_13 : decode cc_M_candidate 13 = .ok (.aload_n 0, 1) := by decide +kernel
theorem d_M_candidate_14 : decode cc_M_candidate 14 = .ok (.getfield 70, 3) := by decide +kernel
theorem d_M_candidate_17 : decode cc_M_candidate 17 = .ok (.ifCond .le 7, 3) := by decide +kernel
theorem d_M_candidate_20 : decode cc_M_candidate 20 = .ok (.iconst 0, 1) := by decide +kernel
theorem d_M_candidate_21 : decode cc_M_candidate 21 = .ok (.goto 28, 3) := by decide +kernel
theorem d_M_candidate_24 : decode cc_M_candidate 24 = .ok (.aload_n 0, 1) := by decide +kernel
theorem d_M_candidate_25 : decode cc_M_candidate 25 = .ok (.getfield 100, 3) := by decide +kernel
theorem d_M_candidate_28 : decode cc_M_candidate 28 = .ok (.ifCond .eq 11, 3) := by decide +kernel
theorem d_M_candidate_31 : decode cc_M_candidate 31 = .ok (.aload_n 0, 1) := by decide +kernel
theorem d_M_candidate_32 : decode cc_M_candidate 32 = .ok (.getfield 55, 3) := by decide +kernel
theorem d_M_candidate_35 : decode cc_M_candidate 35 = .ok (.iconst (-1), 1) := by decide +kernel
theorem d_M_candidate_36 : decode cc_M_candidate 36 = .ok (.if_icmp .ne 7, 3) := by decide +kernel
theorem d_M_candidate_39 : decode cc_M_candidate 39 = .ok (.iconst (-1), 1) := by decide +kernel
theorem d_M_candidate_40 : decode cc_M_candidate 40 = .ok (.goto 9, 3) := by decide +kernel
theorem d_M_candidate_43 : decode cc_M_candidate 43 = .ok (.aload_n 0, 1) := by decide +kernel
theorem d_M_candidate_44 : decode cc_M_candidate 44 = .ok (.iload_n 1, 1) := by decide +kernel
theorem d_M_candidate_45 : decode cc_M_candidate 45 = .ok (.i2l, 1) := by decide +kernel
theorem d_M_candidate_46 : decode cc_M_candidate 46 = .ok (.invokevirtual 228, 3) := by decide +kernel
theorem d_M_candidate_49 : decode cc_M_candidate 49 = .ok (.ireturn, 1) := by decide +kernel
def J_M_candidate_10 (Q : Int32 → St → Prop) (v1 : Int32) (t0 : Int32) (z0 : St) : Prop := ∀ z1 : St, z1 = wI z0 31 0 t0 → (((z1.1 31 0) ≤ 0) → (((z1.1 31 19) = 0) → Q (-1 : Int32) z1) ∧ ((¬ (z1.1 31 19) = 0) → ((¬ (z1.1 31 21) = (-1 : Int32)) → P_M_candidateAt v1.toInt64 z1 (fun (x3 : Int32) (z2 : St) => Q x3 z2)) ∧ (((z1.1 31 21) = (-1 : Int32)) → Q (-1 : Int32) z1))) ∧ ((¬ (z1.1 31 0) ≤ 0) → Q (0 : Int32) z1)
def P_M_candidate (a1 : Int32) (z0 : St) (Q : Int32 → St → Prop) : Prop := ((0 ≤ a1) → J_M_candidate_10 Q a1 (0 : Int32) z0) ∧ ((¬ 0 ≤ a1) → J_M_candidate_10 Q a1 (1 : Int32) z0)
set_option maxHeartbeats 4000000 in
set_option maxRecDepth 100000 in
theorem wJ_M_candidate_10 {Q : Int32 → St → Prop} (E : En p l s m meth c args cc_M_candidate 2 R_M (some .int) G)
    (v1 : Int32) (t0 : Int32) (z0 : St) (ls : Array Slot) (H : Heap) (locs : List Loc) (hP : J_M_candidate_10 Q v1 t0 z0) (hl : lv_has ls 2 [(0, .ref (ha G 31)), (1, .int v1)]) (hW : Wd G z0 s.heap H locs) : W p l e rm_M_candidate s m args below meth c H locs 0 0 (MQ below (QiR Q G) args s 0 0 (fr G)) (F0 m 10 ls [.int t0, .ref (ha G 31)]) := by
  obtain ⟨hx, hb, hml, hown, hr, hlk, hex, hE⟩ := id E
  refine ypf_31_0 hx hb hown hE hW (lk_M_70 hE) d_M_candidate_10 (fun z1 H locs e_z1 hW => ?_)
  have hP := hP z1 e_z1
  refine lv_aload_n hx hb d_M_candidate_13 rfl (lv_at hl 0 rfl) ?_
  refine ygf_31_0 hx hb hown hE hW (lk_M_70 hE) d_M_candidate_14 ?_
  refine lv_if_le (tgt := 24) hx hb d_M_candidate_17 rfl (fun hc => ?_) (fun hc => ?_)
  · have hP := hP.1 hc
    refine lv_aload_n hx hb d_M_candidate_24 rfl (lv_at hl 0 rfl) ?_
    refine ygf_31_19 hx hb hown hE hW (lk_M_100 hE) d_M_candidate_25 ?_
    refine lv_if_eq (tgt := 39) hx hb d_M_candidate_28 rfl (fun hc => ?_) (fun hc => ?_)
    · have hP := hP.1 hc
      refine lv_iconst (v := -1) hx hb d_M_candidate_39 (by decide) ?_
      refine lv_goto (tgt := 49) hx hb d_M_candidate_40 rfl ?_
      exact yr_i hx hb hr hlk hW hP d_M_candidate_49
    · have hP := hP.2 hc
      refine lv_aload_n hx hb d_M_candidate_31 rfl (lv_at hl 0 rfl) ?_
      refine ygf_31_21 hx hb hown hE hW (lk_M_55 hE) d_M_candidate_32 ?_
      refine lv_iconst (v := -1) hx hb d_M_candidate_35 (by decide) ?_
      refine lv_icmp_ne (tgt := 43) hx hb d_M_candidate_36 rfl (fun hc => ?_) (fun hc => ?_)
      · have hP := hP.1 hc
        refine lv_aload_n hx hb d_M_candidate_43 rfl (lv_at hl 0 rfl) ?_
        refine lv_iload_n hx hb d_M_candidate_44 rfl (lv_at hl 1 rfl) ?_
        refine lv_i2l hx hb d_M_candidate_45 rfl ?_
        refine yc_i (yV (As := [.long v1.toInt64]) (rest := []) E (c_M_candidateAt _ _ _ hP) (cw_M_228 hE) (yrv_31 hE hW) (by decide) hW hl.1 rfl rfl rfl d_M_candidate_46) hW (fun x3 z2 H locs hP hW => ?_)
        exact yr_i hx hb hr hlk hW hP d_M_candidate_49
      · have hP := hP.2 hc
        refine lv_iconst (v := -1) hx hb d_M_candidate_39 (by decide) ?_
        refine lv_goto (tgt := 49) hx hb d_M_candidate_40 rfl ?_
        exact yr_i hx hb hr hlk hW hP d_M_candidate_49
  · have hP := hP.2 hc
    refine lv_iconst (v := 0) hx hb d_M_candidate_20 (by decide) ?_
    refine lv_goto (tgt := 49) hx hb d_M_candidate_21 rfl ?_
    exact yr_i hx hb hr hlk hW hP d_M_candidate_49
set_option maxHeartbeats 4000000 in
set_option maxRecDepth 100000 in
theorem c_M_candidate {l : Launch} {G : GG} (a1 : Int32) (z0 : St) (Q : Int32 → St → Prop) (hP : P_M_candidate a1 z0 Q) : Cti l y_M_candidate cc_M_candidate 2 (some .int) rm_M_candidate G [.ref (ha G 31), .int a1] z0 Q := by
  refine Cti.op (own := R_M) (by decide) rfl (Nat.le_of_ble_eq_true rfl) (fun p e s m args below meth c ls E hl hW => ?_)
  obtain ⟨hx, hb, hml, hown, hr, hlk, hex, hE⟩ := id E
  have hl : lv_has ls 2 [(0, .ref (ha G 31)), (1, .int a1)] := hl
  refine lv_aload_n hx hb d_M_candidate_0 rfl (lv_at hl 0 rfl) ?_
  refine lv_iload_n hx hb d_M_candidate_1 rfl (lv_at hl 1 rfl) ?_
  refine lv_if_ge (tgt := 9) hx hb d_M_candidate_2 rfl (fun hc => ?_) (fun hc => ?_)
  · have hP := hP.1 hc
    refine lv_iconst (v := 0) hx hb d_M_candidate_9 (by decide) ?_
    exact wJ_M_candidate_10 E _ _ _ _ _ _ hP hl hW
  · have hP := hP.2 hc
    refine lv_iconst (v := 1) hx hb d_M_candidate_5 (by decide) ?_
    refine lv_goto (tgt := 10) hx hb d_M_candidate_6 rfl ?_
    exact wJ_M_candidate_10 E _ _ _ _ _ _ hP hl hW
end Code
