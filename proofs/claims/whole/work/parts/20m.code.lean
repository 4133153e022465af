/-! M_replace, M_breach, M_reset, L_trait, L_person, L_quota, L_size, L_count, L_chance, L_kind, L_blocked, L_panel, L_mark, L_rank, L_dice, L_roll, L_number, L_draw, L_member, L_dropOut, L_candidate, L_replace, L_breach -/
section Code
variable {p : Program} {l : Launch} {e : Env} {s : State} {m : MethodId} {args : Array Value} {below : List Frame} {meth : Method} {c : Code} {G : GG}
theorem d_M_replace_0 : decode cc_M_replace 0 = .ok (.aload_n 0, 1) := by decide +kernel
theorem d_M_replace_1 : decode cc_M_replace 1 = .ok (.aload_n 0, 1) := by decide +kernel
theorem d_M_replace_2 : decode cc_M_replace 2 = .ok (.getfield 100, 3) := by decide +kernel
theorem d_M_replace_5 : decode cc_M_replace 5 = .ok (.ifCond .eq 18, 3) := by decide +kernel
theorem d_M_replace_8 : decode cc_M_replace 8 = .ok (.aload_n 0, 1) := by decide +kernel
theorem d_M_replace_9 : decode cc_M_replace 9 = .ok (.getfield 55, 3) := by decide +kernel
theorem d_M_replace_12 : decode cc_M_replace 12 = .ok (.iconst (-1), 1) := by decide +kernel
theorem d_M_replace_13 : decode cc_M_replace 13 = .ok (.if_icmp .eq 10, 3) := by decide +kernel
theorem d_M_replace_16 : decode cc_M_replace 16 = .ok (.aload_n 0, 1) := by decide +kernel
theorem d_M_replace_17 : decode cc_M_replace 17 = .ok (.getfield 90, 3) := by decide +kernel
theorem d_M_replace_20 : decode cc_M_replace 20 = .ok (.ifCond .ne 7, 3) := by decide +kernel
theorem d_M_replace_23 : decode cc_M_replace 23 = .ok (.iconst 1, 1) := by decide +kernel
theorem d_M_replace_24 : decode cc_M_replace 24 = .ok (.goto 4, 3) := by decide +kernel
theorem d_M_replace_27 : decode cc_M_replace 27 = .ok (.iconst 0, 1) := by decide +kernel
theorem d_M_replace_28 : decode cc_M_replace 28 = .ok (.putfield 70, 3) := by decide +kernel
theorem d_M_replace_31 : decode cc_M_replace 31 = .ok (.aload_n 0, 1) := by decide +kernel
theorem d_M_replace_32 : decode cc_M_replace 32 = .ok (.getfield 70, 3) := by decide +kernel
theorem d_M_replace_35 : decode cc_M_replace 35 = .ok (.ifCond .le 5, 3) := by decide +kernel
theorem d_M_replace_38 : decode cc_M_replace 38 = .ok (.iconst 0, 1) := by decide +kernel
theorem d_M_replace_39 : decode cc_M_replace 39 = .ok (.ireturn, 1) := by decide +kernel
theorem d_M_replace_40 : decode cc_M_replace 40 = .ok (.aload_n 0, 1) := by decide +kernel
theorem d_M_replace_41 : decode cc_M_replace 41 = .ok (.aload_n 0, 1) := by decide +kernel
theorem d_M_replace_42 : decode cc_M_replace 42 = .ok (.getfield 209, 3) := by decide +kernel
theorem d_M_replace_45 : decode cc_M_replace 45 = .ok (.invokevirtual 228, 3) := by decide +kernel
theorem d_M_replace_48 : decode cc_M_replace 48 = .ok (.istore_n 1, 1) := by decide +kernel
theorem d_M_replace_49 : decode cc_M_replace 49 = .ok (.aload_n 0, 1) := by decide +kernel
theorem d_M_replace_50 : decode cc_M_replace 50 = .ok (.getfield 52, 3) := by decide +kernel
theorem d_M_replace_53 : decode cc_M_replace 53 = .ok (.aload_n 0, 1) := by decide +kernel
theorem d_M_replace_54 : decode cc_M_replace 54 = .ok (.getfield 55, 3) := by decide +kernel
theorem d_M_replace_57 : decode cc_M_replace 57 = .ok (.iload_n 1, 1) := by decide +kernel
theorem d_M_replace_58 : decode cc_M_replace 58 = .ok (.iastore, 1) := by decide +kernel
theorem d_M_replace_59 : decode cc_M_replace 59 = .ok (.aload_n 0, 1) := by decide +kernel
theorem d_M_replace_60 : decode cc_M_replace 60 = .ok (.iconst (-1), 1) := by decide +kernel
theorem d_M_replace_61 : decode cc_M_replace 61 = .ok (.putfield 55, 3) := by decide +kernel
theorem d_M_replace_64 : decode cc_M_replace 64 = .ok (.aload_n 0, 1) := by decide +kernel
theorem d_M_replace_65 : decode cc_M_replace 65 = .ok (.invokevirtual 212, 3) := by decide +kernel
theorem d_M_replace_68 : decode cc_M_replace 68 = .ok (.iload_n 1, 1) := by decide +kernel
theorem d_M_replace_69 : decode cc_M_replace 69 = .ok (.ireturn, 1) := by decide +kernel
def J_M_replace_28 (Q : Int32 → St → Prop) (t0 : Int32) (z0 : St) : Prop := ∀ z1 : St, z1 = wI z0 31 0 t0 → (((z1.1 31 0) ≤ 0) → P_M_candidateAt (z1.2 31 30) z1 (fun (x3 : Int32) (z2 : St) => vp_in (z2.1 31 21) 8 ∧ ∀ z4 : St, z4 = wI z2 44 (z2.1 31 21).toNatClampNeg x3 → ∀ z5 : St, z5 = wI z4 31 21 (-1 : Int32) → P_M_used z5 (fun (z6 : St) => Q x3 z6))) ∧ ((¬ (z1.1 31 0) ≤ 0) → Q (0 : Int32) z1)
def P_M_replace (z0 : St) (Q : Int32 → St → Prop) : Prop := (((z0.1 31 19) = 0) → J_M_replace_28 Q (1 : Int32) z0) ∧ ((¬ (z0.1 31 19) = 0) → (((z0.1 31 21) = (-1 : Int32)) → J_M_replace_28 Q (1 : Int32) z0) ∧ ((¬ (z0.1 31 21) = (-1 : Int32)) → ((¬ (z0.1 31 29) = 0) → J_M_replace_28 Q (0 : Int32) z0) ∧ (((z0.1 31 29) = 0) → J_M_replace_28 Q (1 : Int32) z0)))
set_option maxHeartbeats 4000000 in
set_option maxRecDepth 100000 in
theorem wJ_M_replace_28 {Q : Int32 → St → Prop} (E : En p l s m meth c args cc_M_replace 2 R_M (some .int) G)
    (t0 : Int32) (z0 : St) (ls : Array Slot) (H : Heap) (locs : List Loc) (hP : J_M_replace_28 Q t0 z0) (hl : lv_has ls 2 [(0, .ref (ha G 31))]) (hW : Wd G z0 s.heap H locs) : W p l e rm_M_replace s m args below meth c H locs 0 0 (MQ below (QiR Q G) args s 0 0 (fr G)) (F0 m 28 ls [.int t0, .ref (ha G 31)]) := by
  obtain ⟨hx, hb, hml, hown, hr, hlk, hex, hE⟩ := id E
  refine ypf_31_0 hx hb hown hE hW (lk_M_70 hE) d_M_replace_28 (fun z1 H locs e_z1 hW => ?_)
  have hP := hP z1 e_z1
  refine lv_aload_n hx hb d_M_replace_31 rfl (lv_at hl 0 rfl) ?_
  refine ygf_31_0 hx hb hown hE hW (lk_M_70 hE) d_M_replace_32 ?_
  refine lv_if_le (tgt := 40) hx hb d_M_replace_35 rfl (fun hc => ?_) (fun hc => ?_)
  · have hP := hP.1 hc
    refine lv_aload_n hx hb d_M_replace_40 rfl (lv_at hl 0 rfl) ?_
    refine lv_aload_n hx hb d_M_replace_41 rfl (lv_at hl 0 rfl) ?_
    refine ygf_31_30 hx hb hown hE hW (lk_M_209 hE) d_M_replace_42 ?_
    refine yc_i (yV (As := [.long (z1.2 31 30)]) (rest := []) E (c_M_candidateAt _ _ _ hP) (cw_M_228 hE) (yrv_31 hE hW) (by decide) hW hl.1 rfl rfl rfl d_M_replace_45) hW (fun x3 z2 H locs hP hW => ?_)
    refine lv_istore_n (lv' := [(1, .int x3), (0, .ref (ha G 31))]) hx hb d_M_replace_48 rfl hl (by decide) rfl (fun ls hl => ?_)
    refine lv_aload_n hx hb d_M_replace_49 rfl (lv_at hl 1 rfl) ?_
    refine ygf_31_20 hx hb hown hE hW (lk_M_52 hE) d_M_replace_50 ?_
    refine lv_aload_n hx hb d_M_replace_53 rfl (lv_at hl 1 rfl) ?_
    refine ygf_31_21 hx hb hown hE hW (lk_M_55 hE) d_M_replace_54 ?_
    refine lv_iload_n hx hb d_M_replace_57 rfl (lv_at hl 0 rfl) ?_
    refine ys_44 hx hb hE hW hP.1 d_M_replace_58 (fun z4 H locs e_z4 hW => ?_)
    have hP := hP.2
    have hP := hP z4 e_z4
    refine lv_aload_n hx hb d_M_replace_59 rfl (lv_at hl 1 rfl) ?_
    refine lv_iconst (v := -1) hx hb d_M_replace_60 (by decide) ?_
    refine ypf_31_21 hx hb hown hE hW (lk_M_55 hE) d_M_replace_61 (fun z5 H locs e_z5 hW => ?_)
    have hP := hP z5 e_z5
    refine lv_aload_n hx hb d_M_replace_64 rfl (lv_at hl 1 rfl) ?_
    refine yc_v (yV (As := []) (rest := []) E (c_M_used _ _ hP) (cw_M_212 hE) (yrv_31 hE hW) (by decide) hW hl.1 rfl rfl rfl d_M_replace_65) hW (fun z6 H locs hP hW => ?_)
    refine lv_iload_n hx hb d_M_replace_68 rfl (lv_at hl 0 rfl) ?_
    exact yr_i hx hb hr hlk hW hP d_M_replace_69
  · have hP := hP.2 hc
    refine lv_iconst (v := 0) hx hb d_M_replace_38 (by decide) ?_
    exact yr_i hx hb hr hlk hW hP d_M_replace_39
set_option maxHeartbeats 4000000 in
set_option maxRecDepth 100000 in
theorem c_M_replace {l : Launch} {G : GG} (z0 : St) (Q : Int32 → St → Prop) (hP : P_M_replace z0 Q) : Cti l y_M_replace cc_M_replace 2 (some .int) rm_M_replace G [.ref (ha G 31)] z0 Q := by
  refine Cti.op (own := R_M) (by decide) rfl (Nat.le_of_ble_eq_true rfl) (fun p e s m args below meth c ls E hl hW => ?_)
  obtain ⟨hx, hb, hml, hown, hr, hlk, hex, hE⟩ := id E
  have hl : lv_has ls 2 [(0, .ref (ha G 31))] := hl
  refine lv_aload_n hx hb d_M_replace_0 rfl (lv_at hl 0 rfl) ?_
  refine lv_aload_n hx hb d_M_replace_1 rfl (lv_at hl 0 rfl) ?_
  refine ygf_31_19 hx hb hown hE hW (lk_M_100 hE) d_M_replace_2 ?_
  refine lv_if_eq (tgt := 23) hx hb d_M_replace_5 rfl (fun hc => ?_) (fun hc => ?_)
  · have hP := hP.1 hc
    refine lv_iconst (v := 1) hx hb d_M_replace_23 (by decide) ?_
    refine lv_goto (tgt := 28) hx hb d_M_replace_24 rfl ?_
    exact wJ_M_replace_28 E _ _ _ _ _ hP hl hW
  · have hP := hP.2 hc
    refine lv_aload_n hx hb d_M_replace_8 rfl (lv_at hl 0 rfl) ?_
    refine ygf_31_21 hx hb hown hE hW (lk_M_55 hE) d_M_replace_9 ?_
    refine lv_iconst (v := -1) hx hb d_M_replace_12 (by decide) ?_
    refine lv_icmp_eq (tgt := 23) hx hb d_M_replace_13 rfl (fun hc => ?_) (fun hc => ?_)
    · have hP := hP.1 hc
      refine lv_iconst (v := 1) hx hb d_M_replace_23 (by decide) ?_
      refine lv_goto (tgt := 28) hx hb d_M_replace_24 rfl ?_
      exact wJ_M_replace_28 E _ _ _ _ _ hP hl hW
    · have hP := hP.2 hc
      refine lv_aload_n hx hb d_M_replace_16 rfl (lv_at hl 0 rfl) ?_
      refine ygf_31_29 hx hb hown hE hW (lk_M_90 hE) d_M_replace_17 ?_
      refine lv_if_ne (tgt := 27) hx hb d_M_replace_20 rfl (fun hc => ?_) (fun hc => ?_)
      · have hP := hP.1 hc
        refine lv_iconst (v := 0) hx hb d_M_replace_27 (by decide) ?_
        exact wJ_M_replace_28 E _ _ _ _ _ hP hl hW
      · have hP := hP.2 hc
        refine lv_iconst (v := 1) hx hb d_M_replace_23 (by decide) ?_
        refine lv_goto (tgt := 28) hx hb d_M_replace_24 rfl ?_
        exact wJ_M_replace_28 E _ _ _ _ _ hP hl hW
theorem d_M_breach_0 : decode cc_M_breach 0 = .ok (.aload_n 0, 1) := by decide +kernel
theorem d_M_breach_1 : decode cc_M_breach 1 = .ok (.aload_n 0, 1) := by decide +kernel
theorem d_M_breach_2 : decode cc_M_breach 2 = .ok (.getfield 100, 3) := by decide +kernel
theorem d_M_breach_5 : decode cc_M_breach 5 = .ok (.ifCond .eq 7, 3) := by decide +kernel
theorem d_M_breach_8 : decode cc_M_breach 8 = .ok (.iconst 0, 1) := by decide +kernel
theorem d_M_breach_9 : decode cc_M_breach 9 = .ok (.goto 4, 3) := by decide +kernel
theorem d_M_breach_12 : decode cc_M_breach 12 = .ok (.iconst 1, 1) := by decide +kernel
theorem d_M_breach_13 : decode cc_M_breach 13 = .ok (.putfield 70, 3) := by decide +kernel
theorem d_M_breach_16 : decode cc_M_breach 16 = .ok (.aload_n 0, 1) := by decide +kernel
theorem d_M_breach_17 : decode cc_M_breach 17 = .ok (.getfield 70, 3) := by decide +kernel
theorem d_M_breach_20 : decode cc_M_breach 20 = .ok (.ifCond .le 7, 3) := by decide +kernel
theorem d_M_breach_23 : decode cc_M_breach 23 = .ok (.iconst 0, 1) := by decide +kernel
theorem d_M_breach_24 : decode cc_M_breach 24 = .ok (.goto 8, 3) := by decide +kernel
theorem d_M_breach_27 : decode cc_M_breach 27 = .ok (.aload_n 0, 1) := by decide +kernel
theorem d_M_breach_28 : decode cc_M_breach 28 = .ok (.iconst (-1), 1) := by decide +kernel
theorem d_M_breach_29 : decode cc_M_breach 29 = .ok (.invokevirtual 218, 3) := by decide +kernel
theorem d_M_breach_32 : decode cc_M_breach 32 = .ok (.ireturn, 1) := by decide +kernel
def J_M_breach_13 (Q : Int32 → St → Prop) (t0 : Int32) (z0 : St) : Prop := ∀ z1 : St, z1 = wI z0 31 0 t0 → (((z1.1 31 0) ≤ 0) → P_M_breachWith (-1 : Int32) z1 (fun (x3 : Int32) (z2 : St) => Q x3 z2)) ∧ ((¬ (z1.1 31 0) ≤ 0) → Q (0 : Int32) z1)
def P_M_breach (z0 : St) (Q : Int32 → St → Prop) : Prop := (((z0.1 31 19) = 0) → J_M_breach_13 Q (1 : Int32) z0) ∧ ((¬ (z0.1 31 19) = 0) → J_M_breach_13 Q (0 : Int32) z0)
set_option maxHeartbeats 4000000 in
set_option maxRecDepth 100000 in
theorem wJ_M_breach_13 {Q : Int32 → St → Prop} (E : En p l s m meth c args cc_M_breach 1 R_M (some .int) G)
    (t0 : Int32) (z0 : St) (ls : Array Slot) (H : Heap) (locs : List Loc) (hP : J_M_breach_13 Q t0 z0) (hl : lv_has ls 1 [(0, .ref (ha G 31))]) (hW : Wd G z0 s.heap H locs) : W p l e rm_M_breach s m args below meth c H locs 0 0 (MQ below (QiR Q G) args s 0 0 (fr G)) (F0 m 13 ls [.int t0, .ref (ha G 31)]) := by
  obtain ⟨hx, hb, hml, hown, hr, hlk, hex, hE⟩ := id E
  refine ypf_31_0 hx hb hown hE hW (lk_M_70 hE) d_M_breach_13 (fun z1 H locs e_z1 hW => ?_)
  have hP := hP z1 e_z1
  refine lv_aload_n hx hb d_M_breach_16 rfl (lv_at hl 0 rfl) ?_
  refine ygf_31_0 hx hb hown hE hW (lk_M_70 hE) d_M_breach_17 ?_
  refine lv_if_le (tgt := 27) hx hb d_M_breach_20 rfl (fun hc => ?_) (fun hc => ?_)
  · have hP := hP.1 hc
    refine lv_aload_n hx hb d_M_breach_27 rfl (lv_at hl 0 rfl) ?_
    refine lv_iconst (v := -1) hx hb d_M_breach_28 (by decide) ?_
    refine yc_i (yV (As := [.int (-1 : Int32)]) (rest := []) E (c_M_breachWith _ _ _ hP) (cw_M_218 hE) (yrv_31 hE hW) (by decide) hW hl.1 rfl rfl rfl d_M_breach_29) hW (fun x3 z2 H locs hP hW => ?_)
    exact yr_i hx hb hr hlk hW hP d_M_breach_32
  · have hP := hP.2 hc
    refine lv_iconst (v := 0) hx hb d_M_breach_23 (by decide) ?_
    refine lv_goto (tgt := 32) hx hb d_M_breach_24 rfl ?_
    exact yr_i hx hb hr hlk hW hP d_M_breach_32
set_option maxHeartbeats 4000000 in
set_option maxRecDepth 100000 in
theorem c_M_breach {l : Launch} {G : GG} (z0 : St) (Q : Int32 → St → Prop) (hP : P_M_breach z0 Q) : Cti l y_M_breach cc_M_breach 1 (some .int) rm_M_breach G [.ref (ha G 31)] z0 Q := by
  refine Cti.op (own := R_M) (by decide) rfl (Nat.le_of_ble_eq_true rfl) (fun p e s m args below meth c ls E hl hW => ?_)
  obtain ⟨hx, hb, hml, hown, hr, hlk, hex, hE⟩ := id E
  have hl : lv_has ls 1 [(0, .ref (ha G 31))] := hl
  refine lv_aload_n hx hb d_M_breach_0 rfl (lv_at hl 0 rfl) ?_
  refine lv_aload_n hx hb d_M_breach_1 rfl (lv_at hl 0 rfl) ?_
  refine ygf_31_19 hx hb hown hE hW (lk_M_100 hE) d_M_breach_2 ?_
  refine lv_if_eq (tgt := 12) hx hb d_M_breach_5 rfl (fun hc => ?_) (fun hc => ?_)
  · have hP := hP.1 hc
    refine lv_iconst (v := 1) hx hb d_M_breach_12 (by decide) ?_
    exact wJ_M_breach_13 E _ _ _ _ _ hP hl hW
  · have hP := hP.2 hc
    refine lv_iconst (v := 0) hx hb d_M_breach_8 (by decide) ?_
    refine lv_goto (tgt := 13) hx hb d_M_breach_9 rfl ?_
    exact wJ_M_breach_13 E _ _ _ _ _ hP hl hW
theorem d_M_reset_0 : decode cc_M_reset 0 = .ok (.aload_n 0, 1) := by decide +kernel
theorem d_M_reset_1 : decode cc_M_reset 1 = .ok (.iconst 0, 1) := by decide +kernel
theorem d_M_reset_2 : decode cc_M_reset 2 = .ok (.putfield 70, 3) := by decide +kernel
theorem d_M_reset_5 : decode cc_M_reset 5 = .ok (.aload_n 0, 1) := by decide +kernel
theorem d_M_reset_6 : decode cc_M_reset 6 = .ok (.iconst 0, 1) := by decide +kernel
theorem d_M_reset_7 : decode cc_M_reset 7 = .ok (.putfield 76, 3) := by decide +kernel
theorem d_M_reset_10 : decode cc_M_reset 10 = .ok (.aload_n 0, 1) := by decide +kernel
theorem d_M_reset_11 : decode cc_M_reset 11 = .ok (.iconst 1, 1) := by decide +kernel
theorem d_M_reset_12 : decode cc_M_reset 12 = .ok (.putfield 26, 3) := by decide +kernel
theorem d_M_reset_15 : decode cc_M_reset 15 = .ok (.aload_n 0, 1) := by decide +kernel
theorem d_M_reset_16 : decode cc_M_reset 16 = .ok (.iconst 0, 1) := by decide +kernel
theorem d_M_reset_17 : decode cc_M_reset 17 = .ok (.putfield 100, 3) := by decide +kernel
theorem d_M_reset_20 : decode cc_M_reset 20 = .ok (.aload_n 0, 1) := by decide +kernel
theorem d_M_reset_21 : decode cc_M_reset 21 = .ok (.iconst (-1), 1) := by decide +kernel
theorem d_M_reset_22 : decode cc_M_reset 22 = .ok (.putfield 55, 3) := by decide +kernel
theorem d_M_reset_25 : decode cc_M_reset 25 = .ok (.iconst 0, 1) := by decide +kernel
theorem d_M_reset_26 : decode cc_M_reset 26 = .ok (.istore_n 1, 1) := by decide +kernel
theorem d_M_reset_27 : decode cc_M_reset 27 = .ok (.iload_n 1, 1) := by decide +kernel
theorem d_M_reset_28 : decode cc_M_reset 28 = .ok (.iconst 3, 1) := by decide +kernel
theorem d_M_reset_29 : decode cc_M_reset 29 = .ok (.if_icmp .ge 16, 3) := by decide +kernel
theorem d_M_reset_32 : decode cc_M_reset 32 = .ok (.aload_n 0, 1) := by decide +kernel
theorem d_M_reset_33 : decode cc_M_reset 33 = .ok (.getfield 17, 3) := by decide +kernel
theorem d_M_reset_36 : decode cc_M_reset 36 = .ok (.iload_n 1, 1) := by decide +kernel
theorem d_M_reset_37 : decode cc_M_reset 37 = .ok (.iconst 1, 1) := by decide +kernel
theorem d_M_reset_38 : decode cc_M_reset 38 = .ok (.iastore, 1) := by decide +kernel
theorem d_M_reset_39 : decode cc_M_reset 39 = .ok (.iinc 1 1, 3) := by decide +kernel
theorem d_M_reset_42 : decode cc_M_reset 42 = .ok (.goto (-15), 3) := by decide +kernel
theorem d_M_reset_45 : decode cc_M_reset 45 = .ok (.iconst 0, 1) := by decide +kernel
theorem d_M_reset_46 : decode cc_M_reset 46 = .ok (.istore_n 1, 1) := by decide +kernel
theorem d_M_reset_47 : decode cc_M_reset 47 = .ok (.iload_n 1, 1) := by decide +kernel
theorem d_M_reset_48 : decode cc_M_reset 48 = .ok (.bipush 12, 2) := by decide +kernel
theorem d_M_reset_50 : decode cc_M_reset 50 = .ok (.if_icmp .ge 24, 3) := by decide +kernel
theorem d_M_reset_53 : decode cc_M_reset 53 = .ok (.aload_n 0, 1) := by decide +kernel
theorem d_M_reset_54 : decode cc_M_reset 54 = .ok (.getfield 20, 3) := by decide +kernel
theorem d_M_reset_57 : decode cc_M_reset 57 = .ok (.iload_n 1, 1) := by decide +kernel
theorem d_M_reset_58 : decode cc_M_reset 58 = .ok (.iconst 0, 1) := by decide +kernel
theorem d_M_reset_59 : decode cc_M_reset 59 = .ok (.iastore, 1) := by decide +kernel
theorem d_M_reset_60 : decode cc_M_reset 60 = .ok (.aload_n 0, 1) := by decide +kernel
theorem d_M_reset_61 : decode cc_M_reset 61 = .ok (.getfield 23, 3) := by decide +kernel
theorem d_M_reset_64 : decode cc_M_reset 64 = .ok (.iload_n 1, 1) := by decide +kernel
theorem d_M_reset_65 : decode cc_M_reset 65 = .ok (.bipush 8, 2) := by decide +kernel
theorem d_M_reset_67 : decode cc_M_reset 67 = .ok (.iastore, 1) := by decide +kernel
theorem d_M_reset_68 : decode cc_M_reset 68 = .ok (.iinc 1 1, 3) := by decide +kernel
theorem d_M_reset_71 : decode cc_M_reset 71 = .ok (.goto (-24), 3) := by decide +kernel
theorem d_M_reset_74 : decode cc_M_reset 74 = .ok (.iconst 0, 1) := by decide +kernel
theorem d_M_reset_75 : decode cc_M_reset 75 = .ok (.istore_n 1, 1) := by decide +kernel
theorem d_M_reset_76 : decode cc_M_reset 76 = .ok (.iload_n 1, 1) := by decide +kernel
theorem d_M_reset_77 : decode cc_M_reset 77 = .ok (.bipush 40, 2) := by decide +kernel
theorem d_M_reset_79 : decode cc_M_reset 79 = .ok (.if_icmp .ge 23, 3) := by decide +kernel
theorem d_M_reset_82 : decode cc_M_reset 82 = .ok (.aload_n 0, 1) := by decide +kernel
theorem d_M_reset_83 : decode cc_M_reset 83 = .ok (.getfield 13, 3) := by decide +kernel
theorem d_M_reset_86 : decode cc_M_reset 86 = .ok (.iload_n 1, 1) := by decide +kernel
theorem d_M_reset_87 : decode cc_M_reset 87 = .ok (.iconst 0, 1) := by decide +kernel
theorem d_M_reset_88 : decode cc_M_reset 88 = .ok (.bastore, 1) := by decide +kernel
theorem d_M_reset_89 : decode cc_M_reset 89 = .ok (.aload_n 0, 1) := by decide +kernel
theorem d_M_reset_90 : decode cc_M_reset 90 = .ok (.getfield 58, 3) := by decide +kernel
theorem d_M_reset_93 : decode cc_M_reset 93 = .ok (.iload_n 1, 1) := by decide +kernel
theorem d_M_reset_94 : decode cc_M_reset 94 = .ok (.iconst 0, 1) := by decide +kernel
theorem d_M_reset_95 : decode cc_M_reset 95 = .ok (.bastore, 1) := by decide +kernel
theorem d_M_reset_96 : decode cc_M_reset 96 = .ok (.iinc 1 1, 3) := by decide +kernel
theorem d_M_reset_99 : decode cc_M_reset 99 = .ok (.goto (-23), 3) := by decide +kernel
theorem d_M_reset_102 : decode cc_M_reset 102 = .ok (.aload_n 0, 1) := by decide +kernel
theorem d_M_reset_103 : decode cc_M_reset 103 = .ok (.invokevirtual 103, 3) := by decide +kernel
theorem d_M_reset_106 : decode cc_M_reset 106 = .ok (.return_, 1) := by decide +kernel
def L_M_reset_27 (K45 : St → Prop) (Q : St → Prop) : Nat → Int32 → St → Prop
  | 0, _, _ => False
  | n + 1, v1, z0 => (((3 : Int32) ≤ v1) → K45 z0) ∧ ((¬ (3 : Int32) ≤ v1) → vp_in v1 3 ∧ ∀ z6 : St, z6 = wI z0 34 v1.toNatClampNeg (1 : Int32) → ∀ x7 : Int32, x7 = v1 + 1 → L_M_reset_27 K45 Q n x7 z6)
def L_M_reset_47 (K74 : St → Prop) (Q : St → Prop) : Nat → Int32 → St → Prop
  | 0, _, _ => False
  | n + 1, v1, z0 => (((12 : Int32) ≤ v1) → K74 z0) ∧ ((¬ (12 : Int32) ≤ v1) → vp_in v1 12 ∧ ∀ z9 : St, z9 = wI z0 35 v1.toNatClampNeg (0 : Int32) → vp_in v1 12 ∧ ∀ z10 : St, z10 = wI z9 36 v1.toNatClampNeg (8 : Int32) → ∀ x11 : Int32, x11 = v1 + 1 → L_M_reset_47 K74 Q n x11 z10)
def L_M_reset_76 (K102 : St → Prop) (Q : St → Prop) : Nat → Int32 → St → Prop
  | 0, _, _ => False
  | n + 1, v1, z0 => (((40 : Int32) ≤ v1) → K102 z0) ∧ ((¬ (40 : Int32) ≤ v1) → vp_in v1 40 ∧ ∀ z13 : St, z13 = wI z0 33 v1.toNatClampNeg (0 : Int32) → vp_in v1 40 ∧ ∀ z14 : St, z14 = wI z13 45 v1.toNatClampNeg (0 : Int32) → ∀ x15 : Int32, x15 = v1 + 1 → L_M_reset_76 K102 Q n x15 z14)
def P_M_reset (z0 : St) (Q : St → Prop) : Prop := ∀ z1 : St, z1 = wI z0 31 0 (0 : Int32) → ∀ z2 : St, z2 = wI z1 31 1 (0 : Int32) → ∀ z3 : St, z3 = wI z2 31 7 (1 : Int32) → ∀ z4 : St, z4 = wI z3 31 19 (0 : Int32) → ∀ z5 : St, z5 = wI z4 31 21 (-1 : Int32) → ∃ k27 : Nat, L_M_reset_27 (fun (z8 : St) => ∃ k47 : Nat, L_M_reset_47 (fun (z12 : St) => ∃ k76 : Nat, L_M_reset_76 (fun (z16 : St) => P_M_changed z16 (fun (z17 : St) => Q z17)) Q k76 (0 : Int32) z12) Q k47 (0 : Int32) z8) Q k27 (0 : Int32) z5
set_option maxHeartbeats 4000000 in
set_option maxRecDepth 100000 in
theorem wL_M_reset_27 {K45 : St → Prop} {Q : St → Prop} (E : En p l s m meth c args cc_M_reset 2 R_M none G)
    (hK45 : ∀ (z0 : St) (ls : Array Slot) (H : Heap) (locs : List Loc), K45 z0 → lv_has ls 2 [(0, .ref (ha G 31))] → Wd G z0 s.heap H locs → W p l e rm_M_reset s m args below meth c H locs 0 0 (MQ below (QvR Q G) args s 0 0 (fr G)) (F0 m 45 ls [])) :
    ∀ (n : Nat) (v1 : Int32) (z0 : St) (ls : Array Slot) (H : Heap) (locs : List Loc), L_M_reset_27 K45 Q n v1 z0 → lv_has ls 2 [(0, .ref (ha G 31)), (1, .int v1)] → Wd G z0 s.heap H locs → W p l e rm_M_reset s m args below meth c H locs 0 0 (MQ below (QvR Q G) args s 0 0 (fr G)) (F0 m 27 ls []) := by
  obtain ⟨hx, hb, hml, hown, hr, hlk, hex, hE⟩ := id E
  intro n
  induction n with
  | zero => exact fun _ _ _ _ _ hP _ _ => hP.elim
  | succ n ih =>
    intro v1 z0 ls H locs hP hl hW
    refine lv_iload_n hx hb d_M_reset_27 rfl (lv_at hl 1 rfl) ?_
    refine lv_iconst (v := 3) hx hb d_M_reset_28 (by decide) ?_
    refine lv_icmp_ge (tgt := 45) hx hb d_M_reset_29 rfl (fun hc => ?_) (fun hc => ?_)
    · have hP := hP.1 hc
      exact hK45 _ _ _ _ hP (lv_sub hl [0] rfl) hW
    · have hP := hP.2 hc
      refine lv_aload_n hx hb d_M_reset_32 rfl (lv_at hl 0 rfl) ?_
      refine ygf_31_4 hx hb hown hE hW (lk_M_17 hE) d_M_reset_33 ?_
      refine lv_iload_n hx hb d_M_reset_36 rfl (lv_at hl 1 rfl) ?_
      refine lv_iconst (v := 1) hx hb d_M_reset_37 (by decide) ?_
      refine ys_34 hx hb hE hW hP.1 d_M_reset_38 (fun z6 H locs e_z6 hW => ?_)
      have hP := hP.2
      have hP := hP z6 e_z6
      obtain ⟨x7, e_x7⟩ : ∃ z : Int32, z = v1 + 1 := ⟨_, rfl⟩
      have hP := hP x7 e_x7
      refine lv_iinc (k := 1) (lv' := [(1, .int x7), (0, .ref (ha G 31))]) hx hb d_M_reset_39 hl rfl (ii_p1 e_x7) (by decide) rfl (fun ls hl => ?_)
      refine lv_goto (tgt := 27) hx hb d_M_reset_42 rfl ?_
      exact ih _ _ _ _ _ hP (lv_sub hl [1, 0] rfl) hW
set_option maxHeartbeats 4000000 in
set_option maxRecDepth 100000 in
theorem wL_M_reset_47 {K74 : St → Prop} {Q : St → Prop} (E : En p l s m meth c args cc_M_reset 2 R_M none G)
    (hK74 : ∀ (z0 : St) (ls : Array Slot) (H : Heap) (locs : List Loc), K74 z0 → lv_has ls 2 [(0, .ref (ha G 31))] → Wd G z0 s.heap H locs → W p l e rm_M_reset s m args below meth c H locs 0 0 (MQ below (QvR Q G) args s 0 0 (fr G)) (F0 m 74 ls [])) :
    ∀ (n : Nat) (v1 : Int32) (z0 : St) (ls : Array Slot) (H : Heap) (locs : List Loc), L_M_reset_47 K74 Q n v1 z0 → lv_has ls 2 [(0, .ref (ha G 31)), (1, .int v1)] → Wd G z0 s.heap H locs → W p l e rm_M_reset s m args below meth c H locs 0 0 (MQ below (QvR Q G) args s 0 0 (fr G)) (F0 m 47 ls []) := by
  obtain ⟨hx, hb, hml, hown, hr, hlk, hex, hE⟩ := id E
  intro n
  induction n with
  | zero => exact fun _ _ _ _ _ hP _ _ => hP.elim
  | succ n ih =>
    intro v1 z0 ls H locs hP hl hW
    refine lv_iload_n hx hb d_M_reset_47 rfl (lv_at hl 1 rfl) ?_
    refine lv_bipush (v := 12) hx hb d_M_reset_48 (by decide) ?_
    refine lv_icmp_ge (tgt := 74) hx hb d_M_reset_50 rfl (fun hc => ?_) (fun hc => ?_)
    · have hP := hP.1 hc
      exact hK74 _ _ _ _ hP (lv_sub hl [0] rfl) hW
    · have hP := hP.2 hc
      refine lv_aload_n hx hb d_M_reset_53 rfl (lv_at hl 0 rfl) ?_
      refine ygf_31_5 hx hb hown hE hW (lk_M_20 hE) d_M_reset_54 ?_
      refine lv_iload_n hx hb d_M_reset_57 rfl (lv_at hl 1 rfl) ?_
      refine lv_iconst (v := 0) hx hb d_M_reset_58 (by decide) ?_
      refine ys_35 hx hb hE hW hP.1 d_M_reset_59 (fun z9 H locs e_z9 hW => ?_)
      have hP := hP.2
      have hP := hP z9 e_z9
      refine lv_aload_n hx hb d_M_reset_60 rfl (lv_at hl 0 rfl) ?_
      refine ygf_31_6 hx hb hown hE hW (lk_M_23 hE) d_M_reset_61 ?_
      refine lv_iload_n hx hb d_M_reset_64 rfl (lv_at hl 1 rfl) ?_
      refine lv_bipush (v := 8) hx hb d_M_reset_65 (by decide) ?_
      refine ys_36 hx hb hE hW hP.1 d_M_reset_67 (fun z10 H locs e_z10 hW => ?_)
      have hP := hP.2
      have hP := hP z10 e_z10
      obtain ⟨x11, e_x11⟩ : ∃ z : Int32, z = v1 + 1 := ⟨_, rfl⟩
      have hP := hP x11 e_x11
      refine lv_iinc (k := 1) (lv' := [(1, .int x11), (0, .ref (ha G 31))]) hx hb d_M_reset_68 hl rfl (ii_p1 e_x11) (by decide) rfl (fun ls hl => ?_)
      refine lv_goto (tgt := 47) hx hb d_M_reset_71 rfl ?_
      exact ih _ _ _ _ _ hP (lv_sub hl [1, 0] rfl) hW
set_option maxHeartbeats 4000000 in
set_option maxRecDepth 100000 in
theorem wL_M_reset_76 {K102 : St → Prop} {Q : St → Prop} (E : En p l s m meth c args cc_M_reset 2 R_M none G)
    (hK102 : ∀ (z0 : St) (ls : Array Slot) (H : Heap) (locs : List Loc), K102 z0 → lv_has ls 2 [(0, .ref (ha G 31))] → Wd G z0 s.heap H locs → W p l e rm_M_reset s m args below meth c H locs 0 0 (MQ below (QvR Q G) args s 0 0 (fr G)) (F0 m 102 ls [])) :
    ∀ (n : Nat) (v1 : Int32) (z0 : St) (ls : Array Slot) (H : Heap) (locs : List Loc), L_M_reset_76 K102 Q n v1 z0 → lv_has ls 2 [(0, .ref (ha G 31)), (1, .int v1)] → Wd G z0 s.heap H locs → W p l e rm_M_reset s m args below meth c H locs 0 0 (MQ below (QvR Q G) args s 0 0 (fr G)) (F0 m 76 ls []) := by
  obtain ⟨hx, hb, hml, hown, hr, hlk, hex, hE⟩ := id E
  intro n
  induction n with
  | zero => exact fun _ _ _ _ _ hP _ _ => hP.elim
  | succ n ih =>
    intro v1 z0 ls H locs hP hl hW
    refine lv_iload_n hx hb d_M_reset_76 rfl (lv_at hl 1 rfl) ?_
    refine lv_bipush (v := 40) hx hb d_M_reset_77 (by decide) ?_
    refine lv_icmp_ge (tgt := 102) hx hb d_M_reset_79 rfl (fun hc => ?_) (fun hc => ?_)
    · have hP := hP.1 hc
      exact hK102 _ _ _ _ hP (lv_sub hl [0] rfl) hW
    · have hP := hP.2 hc
      refine lv_aload_n hx hb d_M_reset_82 rfl (lv_at hl 0 rfl) ?_
      refine ygf_31_3 hx hb hown hE hW (lk_M_13 hE) d_M_reset_83 ?_
      refine lv_iload_n hx hb d_M_reset_86 rfl (lv_at hl 1 rfl) ?_
      refine lv_iconst (v := 0) hx hb d_M_reset_87 (by decide) ?_
      refine ys_33 hx hb hE hW zb_0 hP.1 d_M_reset_88 (fun z13 H locs e_z13 hW => ?_)
      have hP := hP.2
      have hP := hP z13 e_z13
      refine lv_aload_n hx hb d_M_reset_89 rfl (lv_at hl 0 rfl) ?_
      refine ygf_31_22 hx hb hown hE hW (lk_M_58 hE) d_M_reset_90 ?_
      refine lv_iload_n hx hb d_M_reset_93 rfl (lv_at hl 1 rfl) ?_
      refine lv_iconst (v := 0) hx hb d_M_reset_94 (by decide) ?_
      refine ys_45 hx hb hE hW zb_0 hP.1 d_M_reset_95 (fun z14 H locs e_z14 hW => ?_)
      have hP := hP.2
      have hP := hP z14 e_z14
      obtain ⟨x15, e_x15⟩ : ∃ z : Int32, z = v1 + 1 := ⟨_, rfl⟩
      have hP := hP x15 e_x15
      refine lv_iinc (k := 1) (lv' := [(1, .int x15), (0, .ref (ha G 31))]) hx hb d_M_reset_96 hl rfl (ii_p1 e_x15) (by decide) rfl (fun ls hl => ?_)
      refine lv_goto (tgt := 76) hx hb d_M_reset_99 rfl ?_
      exact ih _ _ _ _ _ hP (lv_sub hl [1, 0] rfl) hW
set_option maxHeartbeats 4000000 in
set_option maxRecDepth 100000 in
theorem c_M_reset {l : Launch} {G : GG} (z0 : St) (Q : St → Prop) (hP : P_M_reset z0 Q) : Ctv l y_M_reset cc_M_reset 2 none rm_M_reset G [.ref (ha G 31)] z0 Q := by
  refine Ctv.op (own := R_M) (by decide) rfl (Nat.le_of_ble_eq_true rfl) (fun p e s m args below meth c ls E hl hW => ?_)
  obtain ⟨hx, hb, hml, hown, hr, hlk, hex, hE⟩ := id E
  have hl : lv_has ls 2 [(0, .ref (ha G 31))] := hl
  refine lv_aload_n hx hb d_M_reset_0 rfl (lv_at hl 0 rfl) ?_
  refine lv_iconst (v := 0) hx hb d_M_reset_1 (by decide) ?_
  refine ypf_31_0 hx hb hown hE hW (lk_M_70 hE) d_M_reset_2 (fun z1 H locs e_z1 hW => ?_)
  have hP := hP z1 e_z1
  refine lv_aload_n hx hb d_M_reset_5 rfl (lv_at hl 0 rfl) ?_
  refine lv_iconst (v := 0) hx hb d_M_reset_6 (by decide) ?_
  refine ypf_31_1 hx hb hown hE hW (lk_M_76 hE) d_M_reset_7 (fun z2 H locs e_z2 hW => ?_)
  have hP := hP z2 e_z2
  refine lv_aload_n hx hb d_M_reset_10 rfl (lv_at hl 0 rfl) ?_
  refine lv_iconst (v := 1) hx hb d_M_reset_11 (by decide) ?_
  refine ypf_31_7 hx hb hown hE hW (lk_M_26 hE) d_M_reset_12 (fun z3 H locs e_z3 hW => ?_)
  have hP := hP z3 e_z3
  refine lv_aload_n hx hb d_M_reset_15 rfl (lv_at hl 0 rfl) ?_
  refine lv_iconst (v := 0) hx hb d_M_reset_16 (by decide) ?_
  refine ypf_31_19 hx hb hown hE hW zb_0 (lk_M_100 hE) d_M_reset_17 (fun z4 H locs e_z4 hW => ?_)
  have hP := hP z4 e_z4
  refine lv_aload_n hx hb d_M_reset_20 rfl (lv_at hl 0 rfl) ?_
  refine lv_iconst (v := -1) hx hb d_M_reset_21 (by decide) ?_
  refine ypf_31_21 hx hb hown hE hW (lk_M_55 hE) d_M_reset_22 (fun z5 H locs e_z5 hW => ?_)
  have hP := hP z5 e_z5
  refine lv_iconst (v := 0) hx hb d_M_reset_25 (by decide) ?_
  refine lv_istore_n (lv' := [(1, .int (0 : Int32)), (0, .ref (ha G 31))]) hx hb d_M_reset_26 rfl hl (by decide) rfl (fun ls hl => ?_)
  obtain ⟨n2, hP⟩ := hP
  refine wL_M_reset_27 E ?_ n2 _ _ _ _ _ hP (lv_sub hl [1, 0] rfl) hW
  · intro z8 ls H locs hP hl hW
    refine lv_iconst (v := 0) hx hb d_M_reset_45 (by decide) ?_
    refine lv_istore_n (lv' := [(1, .int (0 : Int32)), (0, .ref (ha G 31))]) hx hb d_M_reset_46 rfl hl (by decide) rfl (fun ls hl => ?_)
    obtain ⟨n2, hP⟩ := hP
    refine wL_M_reset_47 E ?_ n2 _ _ _ _ _ hP (lv_sub hl [1, 0] rfl) hW
    · intro z12 ls H locs hP hl hW
      refine lv_iconst (v := 0) hx hb d_M_reset_74 (by decide) ?_
      refine lv_istore_n (lv' := [(1, .int (0 : Int32)), (0, .ref (ha G 31))]) hx hb d_M_reset_75 rfl hl (by decide) rfl (fun ls hl => ?_)
      obtain ⟨n2, hP⟩ := hP
      refine wL_M_reset_76 E ?_ n2 _ _ _ _ _ hP (lv_sub hl [1, 0] rfl) hW
      · intro z16 ls H locs hP hl hW
        refine lv_aload_n hx hb d_M_reset_102 rfl (lv_at hl 0 rfl) ?_
        refine yc_v (yV (As := []) (rest := []) E (c_M_changed _ _ hP) (cw_M_103 hE) (yrv_31 hE hW) (by decide) hW hl.1 rfl rfl rfl d_M_reset_103) hW (fun z17 H locs hP hW => ?_)
        exact yr_v hx hb hr hlk hW hP d_M_reset_106
theorem d_L_trait_0 : decode cc_L_trait 0 = .ok (.aload_n 0, 1) := by decide +kernel
theorem d_L_trait_1 : decode cc_L_trait 1 = .ok (.iload_n 1, 1) := by decide +kernel
theorem d_L_trait_2 : decode cc_L_trait 2 = .ok (.iload_n 2, 1) := by decide +kernel
theorem d_L_trait_3 : decode cc_L_trait 3 = .ok (.invokevirtual 7, 3) := by decide +kernel
theorem d_L_trait_6 : decode cc_L_trait 6 = .ok (.goto 9, 3) := by decide +kernel
theorem d_L_trait_9 : decode cc_L_trait 9 = .ok (.astore_n 3, 1) := by decide +kernel
theorem d_L_trait_10 : decode cc_L_trait 10 = .ok (.iconst 1, 1) := by decide +kernel
theorem d_L_trait_11 : decode cc_L_trait 11 = .ok (.ireturn, 1) := by decide +kernel
theorem d_L_trait_12 : decode cc_L_trait 12 = .ok (.astore_n 3, 1) := by decide +kernel
theorem d_L_trait_13 : decode cc_L_trait 13 = .ok (.iconst 2, 1) := by decide +kernel
theorem d_L_trait_14 : decode cc_L_trait 14 = .ok (.ireturn, 1) := by decide +kernel
theorem d_L_trait_15 : decode cc_L_trait 15 = .ok (.iconst 0, 1) := by decide +kernel
theorem d_L_trait_16 : decode cc_L_trait 16 = .ok (.ireturn, 1) := by decide +kernel
abbrev cl_L_trait : List Clause := [(0, 6, 9, 13, 0), (0, 6, 12, 15, 1)]
theorem cl_L_trait_ok {l : Launch} {G : GG} {s : State} {args : Array Value} (h : KK l G s) : ∀ q ∈ cl_L_trait, q.2.2.2.2 < 4 ∧ (Cond.classLink R_L q.2.2.2.1 (xcn q.2.2.2.2)).before args s = true := by
  intro q hq
  simp only [List.mem_cons, List.not_mem_nil, or_false] at hq
  rcases hq with rfl | rfl
  · exact ⟨by decide, h.w (List.mem_append_right _ (List.mem_append_right _ (List.mem_append_left _ (List.mem_of_getElem? (i := 139) rfl)))) rfl⟩
  · exact ⟨by decide, h.w (List.mem_append_right _ (List.mem_append_right _ (List.mem_append_left _ (List.mem_of_getElem? (i := 140) rfl)))) rfl⟩
def P_L_trait (a1 : Int32) (a2 : Int32) (z0 : St) (Q : Int32 → St → Prop) : Prop := P_O_trait a1 a2 z0 (fun (z1 : St) => Q (0 : Int32) z1) (fun (k : Nat) (z1 : St) => (k = 0 ∧ Q (1 : Int32) z1) ∨ (k = 1 ∧ Q (2 : Int32) z1))
set_option maxHeartbeats 4000000 in
set_option maxRecDepth 100000 in
theorem c_L_trait {l : Launch} {G : GG} (a1 : Int32) (a2 : Int32) (z0 : St) (Q : Int32 → St → Prop) (hP : P_L_trait a1 a2 z0 Q) : CtiW l y_L_trait cc_L_trait 4 (some .int) cl_L_trait rm_L_trait G [.ref (ha G 0), .int a1, .int a2] z0 Q := by
  refine CtiW.op (own := R_L) (by decide) rfl (Nat.le_of_ble_eq_true rfl) (fun _ _ h => cl_L_trait_ok h) (fun p e s m args below meth c ls E hl hW => ?_)
  obtain ⟨hx, hb, hml, hown, hr, hlk, hex, hE, hcl⟩ := id E
  have hl : lv_has ls 4 [(0, .ref (ha G 0)), (1, .int a1), (2, .int a2)] := hl
  refine lv_aload_n hx hb d_L_trait_0 rfl (lv_at hl 0 rfl) ?_
  refine lv_iload_n hx hb d_L_trait_1 rfl (lv_at hl 1 rfl) ?_
  refine lv_iload_n hx hb d_L_trait_2 rfl (lv_at hl 2 rfl) ?_
  refine yk_v E (yVXh (As := [.int a1, .int a2]) (rest := []) E (c_O_trait _ _ _ _ _ hP) (cw_L_7 hE) (yrv_0 hE hW) (by decide) hW hl.1 rfl rfl rfl d_L_trait_3) hW (fun z1 H locs hP hW => ?_) (fun ea k z1 H locs hX hW => ?_)
  · skip
    refine lv_goto (tgt := 15) hx hb d_L_trait_6 rfl ?_
    refine lv_iconst (v := 0) hx hb d_L_trait_15 (by decide) ?_
    exact yr_iC hx hb hr hlk hW hP d_L_trait_16 (by decide) (by decide)
  · rcases hX with ⟨rfl, hP⟩ | ⟨rfl, hP⟩
    · refine ⟨9, by decide, rfl, ?_⟩
      refine lv_astore_n (lv' := [(3, .ref ea), (0, .ref (ha G 0)), (1, .int a1), (2, .int a2)]) hx hb d_L_trait_9 rfl hl (by decide) rfl (fun ls hl => ?_)
      refine lv_iconst (v := 1) hx hb d_L_trait_10 (by decide) ?_
      exact yr_iC hx hb hr hlk hW hP d_L_trait_11 (by decide) (by decide)
    · refine ⟨12, by decide, rfl, ?_⟩
      refine lv_astore_n (lv' := [(3, .ref ea), (0, .ref (ha G 0)), (1, .int a1), (2, .int a2)]) hx hb d_L_trait_12 rfl hl (by decide) rfl (fun ls hl => ?_)
      refine lv_iconst (v := 2) hx hb d_L_trait_13 (by decide) ?_
      exact yr_iC hx hb hr hlk hW hP d_L_trait_14 (by decide) (by decide)
theorem d_L_person_0 : decode cc_L_person 0 = .ok (.aload 4, 2) := by decide +kernel
theorem d_L_person_2 : decode cc_L_person 2 = .ok (.iconst 0, 1) := by decide +kernel
theorem d_L_person_3 : decode cc_L_person 3 = .ok (.aload_n 0, 1) := by decide +kernel
theorem d_L_person_4 : decode cc_L_person 4 = .ok (.iload_n 1, 1) := by decide +kernel
theorem d_L_person_5 : decode cc_L_person 5 = .ok (.iload_n 2, 1) := by decide +kernel
theorem d_L_person_6 : decode cc_L_person 6 = .ok (.iload_n 3, 1) := by decide +kernel
theorem d_L_person_7 : decode cc_L_person 7 = .ok (.invokevirtual 17, 3) := by decide +kernel
theorem d_L_person_10 : decode cc_L_person 10 = .ok (.i2l, 1) := by decide +kernel
theorem d_L_person_11 : decode cc_L_person 11 = .ok (.lastore, 1) := by decide +kernel
theorem d_L_person_12 : decode cc_L_person 12 = .ok (.goto 11, 3) := by decide +kernel
theorem d_L_person_15 : decode cc_L_person 15 = .ok (.astore 5, 2) := by decide +kernel
theorem d_L_person_17 : decode cc_L_person 17 = .ok (.iconst 1, 1) := by decide +kernel
theorem d_L_person_18 : decode cc_L_person 18 = .ok (.ireturn, 1) := by decide +kernel
theorem d_L_person_19 : decode cc_L_person 19 = .ok (.astore 5, 2) := by decide +kernel
theorem d_L_person_21 : decode cc_L_person 21 = .ok (.iconst 2, 1) := by decide +kernel
theorem d_L_person_22 : decode cc_L_person 22 = .ok (.ireturn, 1) := by decide +kernel
theorem d_L_person_23 : decode cc_L_person 23 = .ok (.iconst 0, 1) := by decide +kernel
theorem d_L_person_24 : decode cc_L_person 24 = .ok (.ireturn, 1) := by decide +kernel
abbrev cl_L_person : List Clause := [(0, 12, 15, 13, 0), (0, 12, 19, 15, 1)]
theorem cl_L_person_ok {l : Launch} {G : GG} {s : State} {args : Array Value} (h : KK l G s) : ∀ q ∈ cl_L_person, q.2.2.2.2 < 4 ∧ (Cond.classLink R_L q.2.2.2.1 (xcn q.2.2.2.2)).before args s = true := by
  intro q hq
  simp only [List.mem_cons, List.not_mem_nil, or_false] at hq
  rcases hq with rfl | rfl
  · exact ⟨by decide, h.w (List.mem_append_right _ (List.mem_append_right _ (List.mem_append_left _ (List.mem_of_getElem? (i := 139) rfl)))) rfl⟩
  · exact ⟨by decide, h.w (List.mem_append_right _ (List.mem_append_right _ (List.mem_append_left _ (List.mem_of_getElem? (i := 140) rfl)))) rfl⟩
def P_L_person (a1 : Int32) (a2 : Int32) (a3 : Int32) (z0 : St) (Q : Int32 → St → Prop) : Prop := P_O_person a1 a2 a3 z0 (fun (x2 : Int32) (z1 : St) => vp_in (0 : Int32) 1 ∧ ∀ z3 : St, z3 = wL z1 49 (0 : Int32).toNatClampNeg x2.toInt64 → Q (0 : Int32) z3) (fun (k : Nat) (z1 : St) => (k = 0 ∧ Q (1 : Int32) z1) ∨ (k = 1 ∧ Q (2 : Int32) z1))
set_option maxHeartbeats 4000000 in
set_option maxRecDepth 100000 in
theorem c_L_person {l : Launch} {G : GG} (a1 : Int32) (a2 : Int32) (a3 : Int32) (z0 : St) (Q : Int32 → St → Prop) (hP : P_L_person a1 a2 a3 z0 Q) : CtiW l y_L_person cc_L_person 6 (some .int) cl_L_person rm_L_person G [.ref (ha G 0), .int a1, .int a2, .int a3, .ref (ha G 49)] z0 Q := by
  refine CtiW.op (own := R_L) (by decide) rfl (Nat.le_of_ble_eq_true rfl) (fun _ _ h => cl_L_person_ok h) (fun p e s m args below meth c ls E hl hW => ?_)
  obtain ⟨hx, hb, hml, hown, hr, hlk, hex, hE, hcl⟩ := id E
  have hl : lv_has ls 6 [(0, .ref (ha G 0)), (1, .int a1), (2, .int a2), (3, .int a3), (4, .ref (ha G 49))] := hl
  refine lv_aload hx hb d_L_person_0 (lv_at hl 4 rfl) ?_
  refine lv_iconst (v := 0) hx hb d_L_person_2 (by decide) ?_
  refine lv_aload_n hx hb d_L_person_3 rfl (lv_at hl 0 rfl) ?_
  refine lv_iload_n hx hb d_L_person_4 rfl (lv_at hl 1 rfl) ?_
  refine lv_iload_n hx hb d_L_person_5 rfl (lv_at hl 2 rfl) ?_
  refine lv_iload_n hx hb d_L_person_6 rfl (lv_at hl 3 rfl) ?_
  refine yk_i E (yVXh (As := [.int a1, .int a2, .int a3]) (rest := [.int (0 : Int32), .ref (ha G 49)]) E (c_O_person _ _ _ _ _ _ hP) (cw_L_17 hE) (yrv_0 hE hW) (by decide) hW hl.1 rfl rfl rfl d_L_person_7) hW (fun x2 z1 H locs hP hW => ?_) (fun ea k z1 H locs hX hW => ?_)
  · skip
    refine lv_i2l hx hb d_L_person_10 rfl ?_
    refine ys_49 hx hb hE hW hP.1 d_L_person_11 (fun z3 H locs e_z3 hW => ?_)
    have hP := hP.2
    have hP := hP z3 e_z3
    refine lv_goto (tgt := 23) hx hb d_L_person_12 rfl ?_
    refine lv_iconst (v := 0) hx hb d_L_person_23 (by decide) ?_
    exact yr_iC hx hb hr hlk hW hP d_L_person_24 (by decide) (by decide)
  · rcases hX with ⟨rfl, hP⟩ | ⟨rfl, hP⟩
    · refine ⟨15, by decide, rfl, ?_⟩
      refine lv_astore (lv' := [(5, .ref ea), (0, .ref (ha G 0)), (1, .int a1), (2, .int a2), (3, .int a3), (4, .ref (ha G 49))]) hx hb d_L_person_15 hl (by decide) rfl (fun ls hl => ?_)
      refine lv_iconst (v := 1) hx hb d_L_person_17 (by decide) ?_
      exact yr_iC hx hb hr hlk hW hP d_L_person_18 (by decide) (by decide)
    · refine ⟨19, by decide, rfl, ?_⟩
      refine lv_astore (lv' := [(5, .ref ea), (0, .ref (ha G 0)), (1, .int a1), (2, .int a2), (3, .int a3), (4, .ref (ha G 49))]) hx hb d_L_person_19 hl (by decide) rfl (fun ls hl => ?_)
      refine lv_iconst (v := 2) hx hb d_L_person_21 (by decide) ?_
      exact yr_iC hx hb hr hlk hW hP d_L_person_22 (by decide) (by decide)
theorem d_L_quota_0 : decode cc_L_quota 0 = .ok (.aload_n 0, 1) := by decide +kernel
theorem d_L_quota_1 : decode cc_L_quota 1 = .ok (.iload_n 1, 1) := by decide +kernel
theorem d_L_quota_2 : decode cc_L_quota 2 = .ok (.iload_n 2, 1) := by decide +kernel
theorem d_L_quota_3 : decode cc_L_quota 3 = .ok (.iload_n 3, 1) := by decide +kernel
theorem d_L_quota_4 : decode cc_L_quota 4 = .ok (.iload 4, 2) := by decide +kernel
theorem d_L_quota_6 : decode cc_L_quota 6 = .ok (.invokevirtual 21, 3) := by decide +kernel
theorem d_L_quota_9 : decode cc_L_quota 9 = .ok (.goto 11, 3) := by decide +kernel
theorem d_L_quota_12 : decode cc_L_quota 12 = .ok (.astore 5, 2) := by decide +kernel
theorem d_L_quota_14 : decode cc_L_quota 14 = .ok (.iconst 1, 1) := by decide +kernel
theorem d_L_quota_15 : decode cc_L_quota 15 = .ok (.ireturn, 1) := by decide +kernel
theorem d_L_quota_16 : decode cc_L_quota 16 = .ok (.astore 5, 2) := by decide +kernel
theorem d_L_quota_18 : decode cc_L_quota 18 = .ok (.iconst 2, 1) := by decide +kernel
theorem d_L_quota_19 : decode cc_L_quota 19 = .ok (.ireturn, 1) := by decide +kernel
theorem d_L_quota_20 : decode cc_L_quota 20 = .ok (.iconst 0, 1) := by decide +kernel
theorem d_L_quota_21 : decode cc_L_quota 21 = .ok (.ireturn, 1) := by decide +kernel
abbrev cl_L_quota : List Clause := [(0, 9, 12, 13, 0), (0, 9, 16, 15, 1)]
theorem cl_L_quota_ok {l : Launch} {G : GG} {s : State} {args : Array Value} (h : KK l G s) : ∀ q ∈ cl_L_quota, q.2.2.2.2 < 4 ∧ (Cond.classLink R_L q.2.2.2.1 (xcn q.2.2.2.2)).before args s = true := by
  intro q hq
  simp only [List.mem_cons, List.not_mem_nil, or_false] at hq
  rcases hq with rfl | rfl
  · exact ⟨by decide, h.w (List.mem_append_right _ (List.mem_append_right _ (List.mem_append_left _ (List.mem_of_getElem? (i := 139) rfl)))) rfl⟩
  · exact ⟨by decide, h.w (List.mem_append_right _ (List.mem_append_right _ (List.mem_append_left _ (List.mem_of_getElem? (i := 140) rfl)))) rfl⟩
def P_L_quota (a1 : Int32) (a2 : Int32) (a3 : Int32) (a4 : Int32) (z0 : St) (Q : Int32 → St → Prop) : Prop := P_O_quota a1 a2 a3 a4 z0 (fun (z1 : St) => Q (0 : Int32) z1) (fun (k : Nat) (z1 : St) => (k = 0 ∧ Q (1 : Int32) z1) ∨ (k = 1 ∧ Q (2 : Int32) z1))
set_option maxHeartbeats 4000000 in
set_option maxRecDepth 100000 in
theorem c_L_quota {l : Launch} {G : GG} (a1 : Int32) (a2 : Int32) (a3 : Int32) (a4 : Int32) (z0 : St) (Q : Int32 → St → Prop) (hP : P_L_quota a1 a2 a3 a4 z0 Q) : CtiW l y_L_quota cc_L_quota 6 (some .int) cl_L_quota rm_L_quota G [.ref (ha G 0), .int a1, .int a2, .int a3, .int a4] z0 Q := by
  refine CtiW.op (own := R_L) (by decide) rfl (Nat.le_of_ble_eq_true rfl) (fun _ _ h => cl_L_quota_ok h) (fun p e s m args below meth c ls E hl hW => ?_)
  obtain ⟨hx, hb, hml, hown, hr, hlk, hex, hE, hcl⟩ := id E
  have hl : lv_has ls 6 [(0, .ref (ha G 0)), (1, .int a1), (2, .int a2), (3, .int a3), (4, .int a4)] := hl
  refine lv_aload_n hx hb d_L_quota_0 rfl (lv_at hl 0 rfl) ?_
  refine lv_iload_n hx hb d_L_quota_1 rfl (lv_at hl 1 rfl) ?_
  refine lv_iload_n hx hb d_L_quota_2 rfl (lv_at hl 2 rfl) ?_
  refine lv_iload_n hx hb d_L_quota_3 rfl (lv_at hl 3 rfl) ?_
  refine lv_iload hx hb d_L_quota_4 (lv_at hl 4 rfl) ?_
  refine yk_v E (yVXh (As := [.int a1, .int a2, .int a3, .int a4]) (rest := []) E (c_O_quota _ _ _ _ _ _ _ hP) (cw_L_21 hE) (yrv_0 hE hW) (by decide) hW hl.1 rfl rfl rfl d_L_quota_6) hW (fun z1 H locs hP hW => ?_) (fun ea k z1 H locs hX hW => ?_)
  · skip
    refine lv_goto (tgt := 20) hx hb d_L_quota_9 rfl ?_
    refine lv_iconst (v := 0) hx hb d_L_quota_20 (by decide) ?_
    exact yr_iC hx hb hr hlk hW hP d_L_quota_21 (by decide) (by decide)
  · rcases hX with ⟨rfl, hP⟩ | ⟨rfl, hP⟩
    · refine ⟨12, by decide, rfl, ?_⟩
      refine lv_astore (lv' := [(5, .ref ea), (0, .ref (ha G 0)), (1, .int a1), (2, .int a2), (3, .int a3), (4, .int a4)]) hx hb d_L_quota_12 hl (by decide) rfl (fun ls hl => ?_)
      refine lv_iconst (v := 1) hx hb d_L_quota_14 (by decide) ?_
      exact yr_iC hx hb hr hlk hW hP d_L_quota_15 (by decide) (by decide)
    · refine ⟨16, by decide, rfl, ?_⟩
      refine lv_astore (lv' := [(5, .ref ea), (0, .ref (ha G 0)), (1, .int a1), (2, .int a2), (3, .int a3), (4, .int a4)]) hx hb d_L_quota_16 hl (by decide) rfl (fun ls hl => ?_)
      refine lv_iconst (v := 2) hx hb d_L_quota_18 (by decide) ?_
      exact yr_iC hx hb hr hlk hW hP d_L_quota_19 (by decide) (by decide)
theorem d_L_size_0 : decode cc_L_size 0 = .ok (.aload_n 0, 1) := by decide +kernel
theorem d_L_size_1 : decode cc_L_size 1 = .ok (.iload_n 1, 1) := by decide +kernel
theorem d_L_size_2 : decode cc_L_size 2 = .ok (.invokevirtual 25, 3) := by decide +kernel
theorem d_L_size_5 : decode cc_L_size 5 = .ok (.goto 9, 3) := by decide +kernel
theorem d_L_size_8 : decode cc_L_size 8 = .ok (.astore_n 2, 1) := by decide +kernel
theorem d_L_size_9 : decode cc_L_size 9 = .ok (.iconst 1, 1) := by decide +kernel
theorem d_L_size_10 : decode cc_L_size 10 = .ok (.ireturn, 1) := by decide +kernel
theorem d_L_size_11 : decode cc_L_size 11 = .ok (.astore_n 2, 1) := by decide +kernel
theorem d_L_size_12 : decode cc_L_size 12 = .ok (.iconst 2, 1) := by decide +kernel
theorem d_L_size_13 : decode cc_L_size 13 = .ok (.ireturn, 1) := by decide +kernel
theorem d_L_size_14 : decode cc_L_size 14 = .ok (.iconst 0, 1) := by decide +kernel
theorem d_L_size_15 : decode cc_L_size 15 = .ok (.ireturn, 1) := by decide +kernel
abbrev cl_L_size : List Clause := [(0, 5, 8, 13, 0), (0, 5, 11, 15, 1)]
theorem cl_L_size_ok {l : Launch} {G : GG} {s : State} {args : Array Value} (h : KK l G s) : ∀ q ∈ cl_L_size, q.2.2.2.2 < 4 ∧ (Cond.classLink R_L q.2.2.2.1 (xcn q.2.2.2.2)).before args s = true := by
  intro q hq
  simp only [List.mem_cons, List.not_mem_nil, or_false] at hq
  rcases hq with rfl | rfl
  · exact ⟨by decide, h.w (List.mem_append_right _ (List.mem_append_right _ (List.mem_append_left _ (List.mem_of_getElem? (i := 139) rfl)))) rfl⟩
  · exact ⟨by decide, h.w (List.mem_append_right _ (List.mem_append_right _ (List.mem_append_left _ (List.mem_of_getElem? (i := 140) rfl)))) rfl⟩
def P_L_size (a1 : Int32) (z0 : St) (Q : Int32 → St → Prop) : Prop := P_O_size a1 z0 (fun (z1 : St) => Q (0 : Int32) z1) (fun (k : Nat) (z1 : St) => (k = 0 ∧ Q (1 : Int32) z1) ∨ (k = 1 ∧ Q (2 : Int32) z1))
set_option maxHeartbeats 4000000 in
set_option maxRecDepth 100000 in
theorem c_L_size {l : Launch} {G : GG} (a1 : Int32) (z0 : St) (Q : Int32 → St → Prop) (hP : P_L_size a1 z0 Q) : CtiW l y_L_size cc_L_size 3 (some .int) cl_L_size rm_L_size G [.ref (ha G 0), .int a1] z0 Q := by
  refine CtiW.op (own := R_L) (by decide) rfl (Nat.le_of_ble_eq_true rfl) (fun _ _ h => cl_L_size_ok h) (fun p e s m args below meth c ls E hl hW => ?_)
  obtain ⟨hx, hb, hml, hown, hr, hlk, hex, hE, hcl⟩ := id E
  have hl : lv_has ls 3 [(0, .ref (ha G 0)), (1, .int a1)] := hl
  refine lv_aload_n hx hb d_L_size_0 rfl (lv_at hl 0 rfl) ?_
  refine lv_iload_n hx hb d_L_size_1 rfl (lv_at hl 1 rfl) ?_
  refine yk_v E (yVXh (As := [.int a1]) (rest := []) E (c_O_size _ _ _ _ hP) (cw_L_25 hE) (yrv_0 hE hW) (by decide) hW hl.1 rfl rfl rfl d_L_size_2) hW (fun z1 H locs hP hW => ?_) (fun ea k z1 H locs hX hW => ?_)
  · skip
    refine lv_goto (tgt := 14) hx hb d_L_size_5 rfl ?_
    refine lv_iconst (v := 0) hx hb d_L_size_14 (by decide) ?_
    exact yr_iC hx hb hr hlk hW hP d_L_size_15 (by decide) (by decide)
  · rcases hX with ⟨rfl, hP⟩ | ⟨rfl, hP⟩
    · refine ⟨8, by decide, rfl, ?_⟩
      refine lv_astore_n (lv' := [(2, .ref ea), (0, .ref (ha G 0)), (1, .int a1)]) hx hb d_L_size_8 rfl hl (by decide) rfl (fun ls hl => ?_)
      refine lv_iconst (v := 1) hx hb d_L_size_9 (by decide) ?_
      exact yr_iC hx hb hr hlk hW hP d_L_size_10 (by decide) (by decide)
    · refine ⟨11, by decide, rfl, ?_⟩
      refine lv_astore_n (lv' := [(2, .ref ea), (0, .ref (ha G 0)), (1, .int a1)]) hx hb d_L_size_11 rfl hl (by decide) rfl (fun ls hl => ?_)
      refine lv_iconst (v := 2) hx hb d_L_size_12 (by decide) ?_
      exact yr_iC hx hb hr hlk hW hP d_L_size_13 (by decide) (by decide)
theorem d_L_count_0 : decode cc_L_count 0 = .ok (.aload_n 1, 1) := by decide +kernel
theorem d_L_count_1 : decode cc_L_count 1 = .ok (.iconst 0, 1) := by decide +kernel
theorem d_L_count_2 : decode cc_L_count 2 = .ok (.aload_n 0, 1) := by decide +kernel
theorem d_L_count_3 : decode cc_L_count 3 = .ok (.invokevirtual 29, 3) := by decide +kernel
theorem d_L_count_6 : decode cc_L_count 6 = .ok (.lastore, 1) := by decide +kernel
theorem d_L_count_7 : decode cc_L_count 7 = .ok (.goto 6, 3) := by decide +kernel
theorem d_L_count_10 : decode cc_L_count 10 = .ok (.astore_n 2, 1) := by decide +kernel
theorem d_L_count_11 : decode cc_L_count 11 = .ok (.iconst 1, 1) := by decide +kernel
theorem d_L_count_12 : decode cc_L_count 12 = .ok (.ireturn, 1) := by decide +kernel
theorem d_L_count_13 : decode cc_L_count 13 = .ok (.iconst 0, 1) := by decide +kernel
theorem d_L_count_14 : decode cc_L_count 14 = .ok (.ireturn, 1) := by decide +kernel
abbrev cl_L_count : List Clause := [(0, 7, 10, 33, 3)]
theorem cl_L_count_ok {l : Launch} {G : GG} {s : State} {args : Array Value} (h : KK l G s) : ∀ q ∈ cl_L_count, q.2.2.2.2 < 4 ∧ (Cond.classLink R_L q.2.2.2.1 (xcn q.2.2.2.2)).before args s = true := by
  intro q hq
  simp only [List.mem_cons, List.not_mem_nil, or_false] at hq
  rcases hq with rfl
  · exact ⟨by decide, h.w (List.mem_append_right _ (List.mem_append_right _ (List.mem_append_right _ (List.mem_append_left _ (List.mem_of_getElem? (i := 66) rfl))))) rfl⟩
def P_L_count (z0 : St) (Q : Int32 → St → Prop) : Prop := P_O_count z0 (fun (x2 : Int64) (z1 : St) => vp_in (0 : Int32) 1 ∧ ∀ z3 : St, z3 = wL z1 49 (0 : Int32).toNatClampNeg x2 → Q (0 : Int32) z3) (fun (k : Nat) (z1 : St) => (k = 3 ∧ Q (1 : Int32) z1))
set_option maxHeartbeats 4000000 in
set_option maxRecDepth 100000 in
theorem c_L_count {l : Launch} {G : GG} (z0 : St) (Q : Int32 → St → Prop) (hP : P_L_count z0 Q) : CtiW l y_L_count cc_L_count 3 (some .int) cl_L_count rm_L_count G [.ref (ha G 0), .ref (ha G 49)] z0 Q := by
  refine CtiW.op (own := R_L) (by decide) rfl (Nat.le_of_ble_eq_true rfl) (fun _ _ h => cl_L_count_ok h) (fun p e s m args below meth c ls E hl hW => ?_)
  obtain ⟨hx, hb, hml, hown, hr, hlk, hex, hE, hcl⟩ := id E
  have hl : lv_has ls 3 [(0, .ref (ha G 0)), (1, .ref (ha G 49))] := hl
  refine lv_aload_n hx hb d_L_count_0 rfl (lv_at hl 1 rfl) ?_
  refine lv_iconst (v := 0) hx hb d_L_count_1 (by decide) ?_
  refine lv_aload_n hx hb d_L_count_2 rfl (lv_at hl 0 rfl) ?_
  refine yk_l E (yVXh (As := []) (rest := [.int (0 : Int32), .ref (ha G 49)]) E (c_O_count _ _ _ hP) (cw_L_29 hE) (yrv_0 hE hW) (by decide) hW hl.1 rfl rfl rfl d_L_count_3) hW (fun x2 z1 H locs hP hW => ?_) (fun ea k z1 H locs hX hW => ?_)
  · skip
    refine ys_49 hx hb hE hW hP.1 d_L_count_6 (fun z3 H locs e_z3 hW => ?_)
    have hP := hP.2
    have hP := hP z3 e_z3
    refine lv_goto (tgt := 13) hx hb d_L_count_7 rfl ?_
    refine lv_iconst (v := 0) hx hb d_L_count_13 (by decide) ?_
    exact yr_iC hx hb hr hlk hW hP d_L_count_14 (by decide) (by decide)
  · obtain ⟨rfl, hP⟩ := hX
    refine ⟨10, by decide, rfl, ?_⟩
    refine lv_astore_n (lv' := [(2, .ref ea), (0, .ref (ha G 0)), (1, .ref (ha G 49))]) hx hb d_L_count_10 rfl hl (by decide) rfl (fun ls hl => ?_)
    refine lv_iconst (v := 1) hx hb d_L_count_11 (by decide) ?_
    exact yr_iC hx hb hr hlk hW hP d_L_count_12 (by decide) (by decide)
theorem d_L_chance_0 : decode cc_L_chance 0 = .ok (.aload_n 2, 1) := by decide +kernel
theorem d_L_chance_1 : decode cc_L_chance 1 = .ok (.iconst 0, 1) := by decide +kernel
theorem d_L_chance_2 : decode cc_L_chance 2 = .ok (.aload_n 0, 1) := by decide +kernel
theorem d_L_chance_3 : decode cc_L_chance 3 = .ok (.iload_n 1, 1) := by decide +kernel
theorem d_L_chance_4 : decode cc_L_chance 4 = .ok (.invokevirtual 35, 3) := by decide +kernel
theorem d_L_chance_7 : decode cc_L_chance 7 = .ok (.lastore, 1) := by decide +kernel
theorem d_L_chance_8 : decode cc_L_chance 8 = .ok (.goto 9, 3) := by decide +kernel
theorem d_L_chance_11 : decode cc_L_chance 11 = .ok (.astore_n 3, 1) := by decide +kernel
theorem d_L_chance_12 : decode cc_L_chance 12 = .ok (.iconst 1, 1) := by decide +kernel
theorem d_L_chance_13 : decode cc_L_chance 13 = .ok (.ireturn, 1) := by decide +kernel
theorem d_L_chance_14 : decode cc_L_chance 14 = .ok (.astore_n 3, 1) := by decide +kernel
theorem d_L_chance_15 : decode cc_L_chance 15 = .ok (.iconst 2, 1) := by decide +kernel
theorem d_L_chance_16 : decode cc_L_chance 16 = .ok (.ireturn, 1) := by decide +kernel
theorem d_L_chance_17 : decode cc_L_chance 17 = .ok (.iconst 0, 1) := by decide +kernel
theorem d_L_chance_18 : decode cc_L_chance 18 = .ok (.ireturn, 1) := by decide +kernel
abbrev cl_L_chance : List Clause := [(0, 8, 11, 13, 0), (0, 8, 14, 33, 3)]
theorem cl_L_chance_ok {l : Launch} {G : GG} {s : State} {args : Array Value} (h : KK l G s) : ∀ q ∈ cl_L_chance, q.2.2.2.2 < 4 ∧ (Cond.classLink R_L q.2.2.2.1 (xcn q.2.2.2.2)).before args s = true := by
  intro q hq
  simp only [List.mem_cons, List.not_mem_nil, or_false] at hq
  rcases hq with rfl | rfl
  · exact ⟨by decide, h.w (List.mem_append_right _ (List.mem_append_right _ (List.mem_append_left _ (List.mem_of_getElem? (i := 139) rfl)))) rfl⟩
  · exact ⟨by decide, h.w (List.mem_append_right _ (List.mem_append_right _ (List.mem_append_right _ (List.mem_append_left _ (List.mem_of_getElem? (i := 66) rfl))))) rfl⟩
def P_L_chance (a1 : Int32) (z0 : St) (Q : Int32 → St → Prop) : Prop := P_O_chance a1 z0 (fun (x2 : Int64) (z1 : St) => vp_in (0 : Int32) 1 ∧ ∀ z3 : St, z3 = wL z1 49 (0 : Int32).toNatClampNeg x2 → Q (0 : Int32) z3) (fun (k : Nat) (z1 : St) => (k = 0 ∧ Q (1 : Int32) z1) ∨ (k = 3 ∧ Q (2 : Int32) z1))
set_option maxHeartbeats 4000000 in
set_option maxRecDepth 100000 in
theorem c_L_chance {l : Launch} {G : GG} (a1 : Int32) (z0 : St) (Q : Int32 → St → Prop) (hP : P_L_chance a1 z0 Q) : CtiW l y_L_chance cc_L_chance 4 (some .int) cl_L_chance rm_L_chance G [.ref (ha G 0), .int a1, .ref (ha G 49)] z0 Q := by
  refine CtiW.op (own := R_L) (by decide) rfl (Nat.le_of_ble_eq_true rfl) (fun _ _ h => cl_L_chance_ok h) (fun p e s m args below meth c ls E hl hW => ?_)
  obtain ⟨hx, hb, hml, hown, hr, hlk, hex, hE, hcl⟩ := id E
  have hl : lv_has ls 4 [(0, .ref (ha G 0)), (1, .int a1), (2, .ref (ha G 49))] := hl
  refine lv_aload_n hx hb d_L_chance_0 rfl (lv_at hl 2 rfl) ?_
  refine lv_iconst (v := 0) hx hb d_L_chance_1 (by decide) ?_
  refine lv_aload_n hx hb d_L_chance_2 rfl (lv_at hl 0 rfl) ?_
  refine lv_iload_n hx hb d_L_chance_3 rfl (lv_at hl 1 rfl) ?_
  refine yk_l E (yVXh (As := [.int a1]) (rest := [.int (0 : Int32), .ref (ha G 49)]) E (c_O_chance _ _ _ _ hP) (cw_L_35 hE) (yrv_0 hE hW) (by decide) hW hl.1 rfl rfl rfl d_L_chance_4) hW (fun x2 z1 H locs hP hW => ?_) (fun ea k z1 H locs hX hW => ?_)
  · skip
    refine ys_49 hx hb hE hW hP.1 d_L_chance_7 (fun z3 H locs e_z3 hW => ?_)
    have hP := hP.2
    have hP := hP z3 e_z3
    refine lv_goto (tgt := 17) hx hb d_L_chance_8 rfl ?_
    refine lv_iconst (v := 0) hx hb d_L_chance_17 (by decide) ?_
    exact yr_iC hx hb hr hlk hW hP d_L_chance_18 (by decide) (by decide)
  · rcases hX with ⟨rfl, hP⟩ | ⟨rfl, hP⟩
    · refine ⟨11, by decide, rfl, ?_⟩
      refine lv_astore_n (lv' := [(3, .ref ea), (0, .ref (ha G 0)), (1, .int a1), (2, .ref (ha G 49))]) hx hb d_L_chance_11 rfl hl (by decide) rfl (fun ls hl => ?_)
      refine lv_iconst (v := 1) hx hb d_L_chance_12 (by decide) ?_
      exact yr_iC hx hb hr hlk hW hP d_L_chance_13 (by decide) (by decide)
    · refine ⟨14, by decide, rfl, ?_⟩
      refine lv_astore_n (lv' := [(3, .ref ea), (0, .ref (ha G 0)), (1, .int a1), (2, .ref (ha G 49))]) hx hb d_L_chance_14 rfl hl (by decide) rfl (fun ls hl => ?_)
      refine lv_iconst (v := 2) hx hb d_L_chance_15 (by decide) ?_
      exact yr_iC hx hb hr hlk hW hP d_L_chance_16 (by decide) (by decide)
theorem d_L_kind_0 : decode cc_L_kind 0 = .ok (.aload_n 2, 1) := by decide +kernel
theorem d_L_kind_1 : decode cc_L_kind 1 = .ok (.iconst 0, 1) := by decide +kernel
theorem d_L_kind_2 : decode cc_L_kind 2 = .ok (.aload_n 0, 1) := by decide +kernel
theorem d_L_kind_3 : decode cc_L_kind 3 = .ok (.iload_n 1, 1) := by decide +kernel
theorem d_L_kind_4 : decode cc_L_kind 4 = .ok (.invokevirtual 39, 3) := by decide +kernel
theorem d_L_kind_7 : decode cc_L_kind 7 = .ok (.i2l, 1) := by decide +kernel
theorem d_L_kind_8 : decode cc_L_kind 8 = .ok (.lastore, 1) := by decide +kernel
theorem d_L_kind_9 : decode cc_L_kind 9 = .ok (.goto 6, 3) := by decide +kernel
theorem d_L_kind_12 : decode cc_L_kind 12 = .ok (.astore_n 3, 1) := by decide +kernel
theorem d_L_kind_13 : decode cc_L_kind 13 = .ok (.iconst 1, 1) := by decide +kernel
theorem d_L_kind_14 : decode cc_L_kind 14 = .ok (.ireturn, 1) := by decide +kernel
theorem d_L_kind_15 : decode cc_L_kind 15 = .ok (.iconst 0, 1) := by decide +kernel
theorem d_L_kind_16 : decode cc_L_kind 16 = .ok (.ireturn, 1) := by decide +kernel
abbrev cl_L_kind : List Clause := [(0, 9, 12, 13, 0)]
theorem cl_L_kind_ok {l : Launch} {G : GG} {s : State} {args : Array Value} (h : KK l G s) : ∀ q ∈ cl_L_kind, q.2.2.2.2 < 4 ∧ (Cond.classLink R_L q.2.2.2.1 (xcn q.2.2.2.2)).before args s = true := by
  intro q hq
  simp only [List.mem_cons, List.not_mem_nil, or_false] at hq
  rcases hq with rfl
  · exact ⟨by decide, h.w (List.mem_append_right _ (List.mem_append_right _ (List.mem_append_left _ (List.mem_of_getElem? (i := 139) rfl)))) rfl⟩
def P_L_kind (a1 : Int32) (z0 : St) (Q : Int32 → St → Prop) : Prop := P_O_kind a1 z0 (fun (x2 : Int32) (z1 : St) => vp_in (0 : Int32) 1 ∧ ∀ z3 : St, z3 = wL z1 49 (0 : Int32).toNatClampNeg x2.toInt64 → Q (0 : Int32) z3) (fun (k : Nat) (z1 : St) => (k = 0 ∧ Q (1 : Int32) z1))
set_option maxHeartbeats 4000000 in
set_option maxRecDepth 100000 in
theorem c_L_kind {l : Launch} {G : GG} (a1 : Int32) (z0 : St) (Q : Int32 → St → Prop) (hP : P_L_kind a1 z0 Q) : CtiW l y_L_kind cc_L_kind 4 (some .int) cl_L_kind rm_L_kind G [.ref (ha G 0), .int a1, .ref (ha G 49)] z0 Q := by
  refine CtiW.op (own := R_L) (by decide) rfl (Nat.le_of_ble_eq_true rfl) (fun _ _ h => cl_L_kind_ok h) (fun p e s m args below meth c ls E hl hW => ?_)
  obtain ⟨hx, hb, hml, hown, hr, hlk, hex, hE, hcl⟩ := id E
  have hl : lv_has ls 4 [(0, .ref (ha G 0)), (1, .int a1), (2, .ref (ha G 49))] := hl
  refine lv_aload_n hx hb d_L_kind_0 rfl (lv_at hl 2 rfl) ?_
  refine lv_iconst (v := 0) hx hb d_L_kind_1 (by decide) ?_
  refine lv_aload_n hx hb d_L_kind_2 rfl (lv_at hl 0 rfl) ?_
  refine lv_iload_n hx hb d_L_kind_3 rfl (lv_at hl 1 rfl) ?_
  refine yk_i E (yVXh (As := [.int a1]) (rest := [.int (0 : Int32), .ref (ha G 49)]) E (c_O_kind _ _ _ _ hP) (cw_L_39 hE) (yrv_0 hE hW) (by decide) hW hl.1 rfl rfl rfl d_L_kind_4) hW (fun x2 z1 H locs hP hW => ?_) (fun ea k z1 H locs hX hW => ?_)
  · skip
    refine lv_i2l hx hb d_L_kind_7 rfl ?_
    refine ys_49 hx hb hE hW hP.1 d_L_kind_8 (fun z3 H locs e_z3 hW => ?_)
    have hP := hP.2
    have hP := hP z3 e_z3
    refine lv_goto (tgt := 15) hx hb d_L_kind_9 rfl ?_
    refine lv_iconst (v := 0) hx hb d_L_kind_15 (by decide) ?_
    exact yr_iC hx hb hr hlk hW hP d_L_kind_16 (by decide) (by decide)
  · obtain ⟨rfl, hP⟩ := hX
    refine ⟨12, by decide, rfl, ?_⟩
    refine lv_astore_n (lv' := [(3, .ref ea), (0, .ref (ha G 0)), (1, .int a1), (2, .ref (ha G 49))]) hx hb d_L_kind_12 rfl hl (by decide) rfl (fun ls hl => ?_)
    refine lv_iconst (v := 1) hx hb d_L_kind_13 (by decide) ?_
    exact yr_iC hx hb hr hlk hW hP d_L_kind_14 (by decide) (by decide)
theorem d_L_blocked_0 : decode cc_L_blocked 0 = .ok (.aload_n 2, 1) := by decide +kernel
theorem d_L_blocked_1 : decode cc_L_blocked 1 = .ok (.iconst 0, 1) := by decide +kernel
theorem d_L_blocked_2 : decode cc_L_blocked 2 = .ok (.aload_n 0, 1) := by decide +kernel
theorem d_L_blocked_3 : decode cc_L_blocked 3 = .ok (.iload_n 1, 1) := by decide +kernel
theorem d_L_blocked_4 : decode cc_L_blocked 4 = .ok (.invokevirtual 43, 3) := by decide +kernel
theorem d_L_blocked_7 : decode cc_L_blocked 7 = .ok (.i2l, 1) := by decide +kernel
theorem d_L_blocked_8 : decode cc_L_blocked 8 = .ok (.lastore, 1) := by decide +kernel
theorem d_L_blocked_9 : decode cc_L_blocked 9 = .ok (.goto 9, 3) := by decide +kernel
theorem d_L_blocked_12 : decode cc_L_blocked 12 = .ok (.astore_n 3, 1) := by decide +kernel
theorem d_L_blocked_13 : decode cc_L_blocked 13 = .ok (.iconst 1, 1) := by decide +kernel
theorem d_L_blocked_14 : decode cc_L_blocked 14 = .ok (.ireturn, 1) := by decide +kernel
theorem d_L_blocked_15 : decode cc_L_blocked 15 = .ok (.astore_n 3, 1) := by decide +kernel
theorem d_L_blocked_16 : decode cc_L_blocked 16 = .ok (.iconst 2, 1) := by decide +kernel
theorem d_L_blocked_17 : decode cc_L_blocked 17 = .ok (.ireturn, 1) := by decide +kernel
theorem d_L_blocked_18 : decode cc_L_blocked 18 = .ok (.iconst 0, 1) := by decide +kernel
theorem d_L_blocked_19 : decode cc_L_blocked 19 = .ok (.ireturn, 1) := by decide +kernel
abbrev cl_L_blocked : List Clause := [(0, 9, 12, 13, 0), (0, 9, 15, 33, 3)]
theorem cl_L_blocked_ok {l : Launch} {G : GG} {s : State} {args : Array Value} (h : KK l G s) : ∀ q ∈ cl_L_blocked, q.2.2.2.2 < 4 ∧ (Cond.classLink R_L q.2.2.2.1 (xcn q.2.2.2.2)).before args s = true := by
  intro q hq
  simp only [List.mem_cons, List.not_mem_nil, or_false] at hq
  rcases hq with rfl | rfl
  · exact ⟨by decide, h.w (List.mem_append_right _ (List.mem_append_right _ (List.mem_append_left _ (List.mem_of_getElem? (i := 139) rfl)))) rfl⟩
  · exact ⟨by decide, h.w (List.mem_append_right _ (List.mem_append_right _ (List.mem_append_right _ (List.mem_append_left _ (List.mem_of_getElem? (i := 66) rfl))))) rfl⟩
def P_L_blocked (a1 : Int32) (z0 : St) (Q : Int32 → St → Prop) : Prop := P_O_blocked a1 z0 (fun (x2 : Int32) (z1 : St) => vp_in (0 : Int32) 1 ∧ ∀ z3 : St, z3 = wL z1 49 (0 : Int32).toNatClampNeg x2.toInt64 → Q (0 : Int32) z3) (fun (k : Nat) (z1 : St) => (k = 0 ∧ Q (1 : Int32) z1) ∨ (k = 3 ∧ Q (2 : Int32) z1))
set_option maxHeartbeats 4000000 in
set_option maxRecDepth 100000 in
theorem c_L_blocked {l : Launch} {G : GG} (a1 : Int32) (z0 : St) (Q : Int32 → St → Prop) (hP : P_L_blocked a1 z0 Q) : CtiW l y_L_blocked cc_L_blocked 4 (some .int) cl_L_blocked rm_L_blocked G [.ref (ha G 0), .int a1, .ref (ha G 49)] z0 Q := by
  refine CtiW.op (own := R_L) (by decide) rfl (Nat.le_of_ble_eq_true rfl) (fun _ _ h => cl_L_blocked_ok h) (fun p e s m args below meth c ls E hl hW => ?_)
  obtain ⟨hx, hb, hml, hown, hr, hlk, hex, hE, hcl⟩ := id E
  have hl : lv_has ls 4 [(0, .ref (ha G 0)), (1, .int a1), (2, .ref (ha G 49))] := hl
  refine lv_aload_n hx hb d_L_blocked_0 rfl (lv_at hl 2 rfl) ?_
  refine lv_iconst (v := 0) hx hb d_L_blocked_1 (by decide) ?_
  refine lv_aload_n hx hb d_L_blocked_2 rfl (lv_at hl 0 rfl) ?_
  refine lv_iload_n hx hb d_L_blocked_3 rfl (lv_at hl 1 rfl) ?_
  refine yk_i E (yVXh (As := [.int a1]) (rest := [.int (0 : Int32), .ref (ha G 49)]) E (c_O_blocked _ _ _ _ hP) (cw_L_43 hE) (yrv_0 hE hW) (by decide) hW hl.1 rfl rfl rfl d_L_blocked_4) hW (fun x2 z1 H locs hP hW => ?_) (fun ea k z1 H locs hX hW => ?_)
  · skip
    refine lv_i2l hx hb d_L_blocked_7 rfl ?_
    refine ys_49 hx hb hE hW hP.1 d_L_blocked_8 (fun z3 H locs e_z3 hW => ?_)
    have hP := hP.2
    have hP := hP z3 e_z3
    refine lv_goto (tgt := 18) hx hb d_L_blocked_9 rfl ?_
    refine lv_iconst (v := 0) hx hb d_L_blocked_18 (by decide) ?_
    exact yr_iC hx hb hr hlk hW hP d_L_blocked_19 (by decide) (by decide)
  · rcases hX with ⟨rfl, hP⟩ | ⟨rfl, hP⟩
    · refine ⟨12, by decide, rfl, ?_⟩
      refine lv_astore_n (lv' := [(3, .ref ea), (0, .ref (ha G 0)), (1, .int a1), (2, .ref (ha G 49))]) hx hb d_L_blocked_12 rfl hl (by decide) rfl (fun ls hl => ?_)
      refine lv_iconst (v := 1) hx hb d_L_blocked_13 (by decide) ?_
      exact yr_iC hx hb hr hlk hW hP d_L_blocked_14 (by decide) (by decide)
    · refine ⟨15, by decide, rfl, ?_⟩
      refine lv_astore_n (lv' := [(3, .ref ea), (0, .ref (ha G 0)), (1, .int a1), (2, .ref (ha G 49))]) hx hb d_L_blocked_15 rfl hl (by decide) rfl (fun ls hl => ?_)
      refine lv_iconst (v := 2) hx hb d_L_blocked_16 (by decide) ?_
      exact yr_iC hx hb hr hlk hW hP d_L_blocked_17 (by decide) (by decide)
theorem d_L_panel_0 : decode cc_L_panel 0 = .ok (.aload 4, 2) := by decide +kernel
theorem d_L_panel_2 : decode cc_L_panel 2 = .ok (.iconst 0, 1) := by decide +kernel
theorem d_L_panel_3 : decode cc_L_panel 3 = .ok (.aload_n 0, 1) := by decide +kernel
theorem d_L_panel_4 : decode cc_L_panel 4 = .ok (.lload_n 1, 1) := by decide +kernel
theorem d_L_panel_5 : decode cc_L_panel 5 = .ok (.iload_n 3, 1) := by decide +kernel
theorem d_L_panel_6 : decode cc_L_panel 6 = .ok (.invokevirtual 46, 3) := by decide +kernel
theorem d_L_panel_9 : decode cc_L_panel 9 = .ok (.i2l, 1) := by decide +kernel
theorem d_L_panel_10 : decode cc_L_panel 10 = .ok (.lastore, 1) := by decide +kernel
theorem d_L_panel_11 : decode cc_L_panel 11 = .ok (.goto 11, 3) := by decide +kernel
theorem d_L_panel_14 : decode cc_L_panel 14 = .ok (.astore 5, 2) := by decide +kernel
theorem d_L_panel_16 : decode cc_L_panel 16 = .ok (.iconst 1, 1) := by decide +kernel
theorem d_L_panel_17 : decode cc_L_panel 17 = .ok (.ireturn, 1) := by decide +kernel
theorem d_L_panel_18 : decode cc_L_panel 18 = .ok (.astore 5, 2) := by decide +kernel
theorem d_L_panel_20 : decode cc_L_panel 20 = .ok (.iconst 2, 1) := by decide +kernel
theorem d_L_panel_21 : decode cc_L_panel 21 = .ok (.ireturn, 1) := by decide +kernel
theorem d_L_panel_22 : decode cc_L_panel 22 = .ok (.iconst 0, 1) := by decide +kernel
theorem d_L_panel_23 : decode cc_L_panel 23 = .ok (.ireturn, 1) := by decide +kernel
abbrev cl_L_panel : List Clause := [(0, 11, 14, 13, 0), (0, 11, 18, 33, 3)]
theorem cl_L_panel_ok {l : Launch} {G : GG} {s : State} {args : Array Value} (h : KK l G s) : ∀ q ∈ cl_L_panel, q.2.2.2.2 < 4 ∧ (Cond.classLink R_L q.2.2.2.1 (xcn q.2.2.2.2)).before args s = true := by
  intro q hq
  simp only [List.mem_cons, List.not_mem_nil, or_false] at hq
  rcases hq with rfl | rfl
  · exact ⟨by decide, h.w (List.mem_append_right _ (List.mem_append_right _ (List.mem_append_left _ (List.mem_of_getElem? (i := 139) rfl)))) rfl⟩
  · exact ⟨by decide, h.w (List.mem_append_right _ (List.mem_append_right _ (List.mem_append_right _ (List.mem_append_left _ (List.mem_of_getElem? (i := 66) rfl))))) rfl⟩
def P_L_panel (a1 : Int64) (a3 : Int32) (z0 : St) (Q : Int32 → St → Prop) : Prop := P_O_panel a1 a3 z0 (fun (x2 : Int32) (z1 : St) => vp_in (0 : Int32) 1 ∧ ∀ z3 : St, z3 = wL z1 49 (0 : Int32).toNatClampNeg x2.toInt64 → Q (0 : Int32) z3) (fun (k : Nat) (z1 : St) => (k = 0 ∧ Q (1 : Int32) z1) ∨ (k = 3 ∧ Q (2 : Int32) z1))
set_option maxHeartbeats 4000000 in
set_option maxRecDepth 100000 in
theorem c_L_panel {l : Launch} {G : GG} (a1 : Int64) (a3 : Int32) (z0 : St) (Q : Int32 → St → Prop) (hP : P_L_panel a1 a3 z0 Q) : CtiW l y_L_panel cc_L_panel 6 (some .int) cl_L_panel rm_L_panel G [.ref (ha G 0), .long a1, .int a3, .ref (ha G 49)] z0 Q := by
  refine CtiW.op (own := R_L) (by decide) rfl (Nat.le_of_ble_eq_true rfl) (fun _ _ h => cl_L_panel_ok h) (fun p e s m args below meth c ls E hl hW => ?_)
  obtain ⟨hx, hb, hml, hown, hr, hlk, hex, hE, hcl⟩ := id E
  have hl : lv_has ls 6 [(0, .ref (ha G 0)), (1, .long a1), (3, .int a3), (4, .ref (ha G 49))] := hl
  refine lv_aload hx hb d_L_panel_0 (lv_at hl 3 rfl) ?_
  refine lv_iconst (v := 0) hx hb d_L_panel_2 (by decide) ?_
  refine lv_aload_n hx hb d_L_panel_3 rfl (lv_at hl 0 rfl) ?_
  refine lv_lload_n hx hb d_L_panel_4 rfl (lv_at hl 1 rfl) ?_
  refine lv_iload_n hx hb d_L_panel_5 rfl (lv_at hl 2 rfl) ?_
  refine yk_i E (yVXh (As := [.long a1, .int a3]) (rest := [.int (0 : Int32), .ref (ha G 49)]) E (c_O_panel _ _ _ _ _ hP) (cw_L_46 hE) (yrv_0 hE hW) (by decide) hW hl.1 rfl rfl rfl d_L_panel_6) hW (fun x2 z1 H locs hP hW => ?_) (fun ea k z1 H locs hX hW => ?_)
  · skip
    refine lv_i2l hx hb d_L_panel_9 rfl ?_
    refine ys_49 hx hb hE hW hP.1 d_L_panel_10 (fun z3 H locs e_z3 hW => ?_)
    have hP := hP.2
    have hP := hP z3 e_z3
    refine lv_goto (tgt := 22) hx hb d_L_panel_11 rfl ?_
    refine lv_iconst (v := 0) hx hb d_L_panel_22 (by decide) ?_
    exact yr_iC hx hb hr hlk hW hP d_L_panel_23 (by decide) (by decide)
  · rcases hX with ⟨rfl, hP⟩ | ⟨rfl, hP⟩
    · refine ⟨14, by decide, rfl, ?_⟩
      refine lv_astore (lv' := [(5, .ref ea), (0, .ref (ha G 0)), (1, .long a1), (3, .int a3), (4, .ref (ha G 49))]) hx hb d_L_panel_14 hl (by decide) rfl (fun ls hl => ?_)
      refine lv_iconst (v := 1) hx hb d_L_panel_16 (by decide) ?_
      exact yr_iC hx hb hr hlk hW hP d_L_panel_17 (by decide) (by decide)
    · refine ⟨18, by decide, rfl, ?_⟩
      refine lv_astore (lv' := [(5, .ref ea), (0, .ref (ha G 0)), (1, .long a1), (3, .int a3), (4, .ref (ha G 49))]) hx hb d_L_panel_18 hl (by decide) rfl (fun ls hl => ?_)
      refine lv_iconst (v := 2) hx hb d_L_panel_20 (by decide) ?_
      exact yr_iC hx hb hr hlk hW hP d_L_panel_21 (by decide) (by decide)
theorem d_L_mark_0 : decode cc_L_mark 0 = .ok (.aload_n 2, 1) := by decide +kernel
theorem d_L_mark_1 : decode cc_L_mark 1 = .ok (.iconst 0, 1) := by decide +kernel
theorem d_L_mark_2 : decode cc_L_mark 2 = .ok (.aload_n 0, 1) := by decide +kernel
theorem d_L_mark_3 : decode cc_L_mark 3 = .ok (.iload_n 1, 1) := by decide +kernel
theorem d_L_mark_4 : decode cc_L_mark 4 = .ok (.invokevirtual 50, 3) := by decide +kernel
theorem d_L_mark_7 : decode cc_L_mark 7 = .ok (.ifCond .eq 7, 3) := by decide +kernel
theorem d_L_mark_10 : decode cc_L_mark 10 = .ok (.lconst 1, 1) := by decide +kernel
theorem d_L_mark_11 : decode cc_L_mark 11 = .ok (.goto 4, 3) := by decide +kernel
theorem d_L_mark_14 : decode cc_L_mark 14 = .ok (.lconst 0, 1) := by decide +kernel
theorem d_L_mark_15 : decode cc_L_mark 15 = .ok (.lastore, 1) := by decide +kernel
theorem d_L_mark_16 : decode cc_L_mark 16 = .ok (.goto 6, 3) := by decide +kernel
theorem d_L_mark_19 : decode cc_L_mark 19 = .ok (.astore_n 3, 1) := by decide +kernel
theorem d_L_mark_20 : decode cc_L_mark 20 = .ok (.iconst 1, 1) := by decide +kernel
theorem d_L_mark_21 : decode cc_L_mark 21 = .ok (.ireturn, 1) := by decide +kernel
theorem d_L_mark_22 : decode cc_L_mark 22 = .ok (.iconst 0, 1) := by decide +kernel
theorem d_L_mark_23 : decode cc_L_mark 23 = .ok (.ireturn, 1) := by decide +kernel
abbrev cl_L_mark : List Clause := [(0, 16, 19, 13, 0)]
theorem cl_L_mark_ok {l : Launch} {G : GG} {s : State} {args : Array Value} (h : KK l G s) : ∀ q ∈ cl_L_mark, q.2.2.2.2 < 4 ∧ (Cond.classLink R_L q.2.2.2.1 (xcn q.2.2.2.2)).before args s = true := by
  intro q hq
  simp only [List.mem_cons, List.not_mem_nil, or_false] at hq
  rcases hq with rfl
  · exact ⟨by decide, h.w (List.mem_append_right _ (List.mem_append_right _ (List.mem_append_left _ (List.mem_of_getElem? (i := 139) rfl)))) rfl⟩
def P_L_mark (a1 : Int32) (z0 : St) (Q : Int32 → St → Prop) : Prop := P_O_mark a1 z0 (fun (x2 : Int32) (z1 : St) => ((x2 = 0) → vp_in (0 : Int32) 1 ∧ ∀ z3 : St, z3 = wL z1 49 (0 : Int32).toNatClampNeg (0 : Int64) → Q (0 : Int32) z3) ∧ ((¬ x2 = 0) → vp_in (0 : Int32) 1 ∧ ∀ z4 : St, z4 = wL z1 49 (0 : Int32).toNatClampNeg (1 : Int64) → Q (0 : Int32) z4)) (fun (k : Nat) (z1 : St) => (k = 0 ∧ Q (1 : Int32) z1))
set_option maxHeartbeats 4000000 in
set_option maxRecDepth 100000 in
theorem c_L_mark {l : Launch} {G : GG} (a1 : Int32) (z0 : St) (Q : Int32 → St → Prop) (hP : P_L_mark a1 z0 Q) : CtiW l y_L_mark cc_L_mark 4 (some .int) cl_L_mark rm_L_mark G [.ref (ha G 0), .int a1, .ref (ha G 49)] z0 Q := by
  refine CtiW.op (own := R_L) (by decide) rfl (Nat.le_of_ble_eq_true rfl) (fun _ _ h => cl_L_mark_ok h) (fun p e s m args below meth c ls E hl hW => ?_)
  obtain ⟨hx, hb, hml, hown, hr, hlk, hex, hE, hcl⟩ := id E
  have hl : lv_has ls 4 [(0, .ref (ha G 0)), (1, .int a1), (2, .ref (ha G 49))] := hl
  refine lv_aload_n hx hb d_L_mark_0 rfl (lv_at hl 2 rfl) ?_
  refine lv_iconst (v := 0) hx hb d_L_mark_1 (by decide) ?_
  refine lv_aload_n hx hb d_L_mark_2 rfl (lv_at hl 0 rfl) ?_
  refine lv_iload_n hx hb d_L_mark_3 rfl (lv_at hl 1 rfl) ?_
  refine yk_i E (yVXh (As := [.int a1]) (rest := [.int (0 : Int32), .ref (ha G 49)]) E (c_O_mark _ _ _ _ hP) (cw_L_50 hE) (yrv_0 hE hW) (by decide) hW hl.1 rfl rfl rfl d_L_mark_4) hW (fun x2 z1 H locs hP hW => ?_) (fun ea k z1 H locs hX hW => ?_)
  · skip
    refine lv_if_eq (tgt := 14) hx hb d_L_mark_7 rfl (fun hc => ?_) (fun hc => ?_)
    · have hP := hP.1 hc
      refine lv_lconst (v := 0) hx hb d_L_mark_14 (by decide) ?_
      refine ys_49 hx hb hE hW hP.1 d_L_mark_15 (fun z3 H locs e_z3 hW => ?_)
      have hP := hP.2
      have hP := hP z3 e_z3
      refine lv_goto (tgt := 22) hx hb d_L_mark_16 rfl ?_
      refine lv_iconst (v := 0) hx hb d_L_mark_22 (by decide) ?_
      exact yr_iC hx hb hr hlk hW hP d_L_mark_23 (by decide) (by decide)
    · have hP := hP.2 hc
      refine lv_lconst (v := 1) hx hb d_L_mark_10 (by decide) ?_
      refine lv_goto (tgt := 15) hx hb d_L_mark_11 rfl ?_
      refine ys_49 hx hb hE hW hP.1 d_L_mark_15 (fun z4 H locs e_z4 hW => ?_)
      have hP := hP.2
      have hP := hP z4 e_z4
      refine lv_goto (tgt := 22) hx hb d_L_mark_16 rfl ?_
      refine lv_iconst (v := 0) hx hb d_L_mark_22 (by decide) ?_
      exact yr_iC hx hb hr hlk hW hP d_L_mark_23 (by decide) (by decide)
  · obtain ⟨rfl, hP⟩ := hX
    refine ⟨19, by decide, rfl, ?_⟩
    refine lv_astore_n (lv' := [(3, .ref ea), (0, .ref (ha G 0)), (1, .int a1), (2, .ref (ha G 49))]) hx hb d_L_mark_19 rfl hl (by decide) rfl (fun ls hl => ?_)
    refine lv_iconst (v := 1) hx hb d_L_mark_20 (by decide) ?_
    exact yr_iC hx hb hr hlk hW hP d_L_mark_21 (by decide) (by decide)
theorem d_L_rank_0 : decode cc_L_rank 0 = .ok (.aload_n 1, 1) := by decide +kernel
theorem d_L_rank_1 : decode cc_L_rank 1 = .ok (.iconst 0, 1) := by decide +kernel
theorem d_L_rank_2 : decode cc_L_rank 2 = .ok (.aload_n 0, 1) := by decide +kernel
theorem d_L_rank_3 : decode cc_L_rank 3 = .ok (.invokevirtual 54, 3) := by decide +kernel
theorem d_L_rank_6 : decode cc_L_rank 6 = .ok (.lastore, 1) := by decide +kernel
theorem d_L_rank_7 : decode cc_L_rank 7 = .ok (.goto 9, 3) := by decide +kernel
theorem d_L_rank_10 : decode cc_L_rank 10 = .ok (.astore_n 2, 1) := by decide +kernel
theorem d_L_rank_11 : decode cc_L_rank 11 = .ok (.iconst 1, 1) := by decide +kernel
theorem d_L_rank_12 : decode cc_L_rank 12 = .ok (.ireturn, 1) := by decide +kernel
theorem d_L_rank_13 : decode cc_L_rank 13 = .ok (.astore_n 2, 1) := by decide +kernel
theorem d_L_rank_14 : decode cc_L_rank 14 = .ok (.iconst 2, 1) := by decide +kernel
theorem d_L_rank_15 : decode cc_L_rank 15 = .ok (.ireturn, 1) := by decide +kernel
theorem d_L_rank_16 : decode cc_L_rank 16 = .ok (.iconst 0, 1) := by decide +kernel
theorem d_L_rank_17 : decode cc_L_rank 17 = .ok (.ireturn, 1) := by decide +kernel
abbrev cl_L_rank : List Clause := [(0, 7, 10, 57, 2), (0, 7, 13, 33, 3)]
theorem cl_L_rank_ok {l : Launch} {G : GG} {s : State} {args : Array Value} (h : KK l G s) : ∀ q ∈ cl_L_rank, q.2.2.2.2 < 4 ∧ (Cond.classLink R_L q.2.2.2.1 (xcn q.2.2.2.2)).before args s = true := by
  intro q hq
  simp only [List.mem_cons, List.not_mem_nil, or_false] at hq
  rcases hq with rfl | rfl
  · exact ⟨by decide, h.w (List.mem_append_right _ (List.mem_append_right _ (List.mem_append_right _ (List.mem_append_left _ (List.mem_of_getElem? (i := 220) rfl))))) rfl⟩
  · exact ⟨by decide, h.w (List.mem_append_right _ (List.mem_append_right _ (List.mem_append_right _ (List.mem_append_left _ (List.mem_of_getElem? (i := 66) rfl))))) rfl⟩
def P_L_rank (z0 : St) (Q : Int32 → St → Prop) : Prop := P_O_rank z0 (fun (x2 : Int64) (z1 : St) => vp_in (0 : Int32) 1 ∧ ∀ z3 : St, z3 = wL z1 49 (0 : Int32).toNatClampNeg x2 → Q (0 : Int32) z3) (fun (k : Nat) (z1 : St) => (k = 2 ∧ Q (1 : Int32) z1) ∨ (k = 3 ∧ Q (2 : Int32) z1))
set_option maxHeartbeats 4000000 in
set_option maxRecDepth 100000 in
theorem c_L_rank {l : Launch} {G : GG} (z0 : St) (Q : Int32 → St → Prop) (hP : P_L_rank z0 Q) : CtiW l y_L_rank cc_L_rank 3 (some .int) cl_L_rank rm_L_rank G [.ref (ha G 0), .ref (ha G 49)] z0 Q := by
  refine CtiW.op (own := R_L) (by decide) rfl (Nat.le_of_ble_eq_true rfl) (fun _ _ h => cl_L_rank_ok h) (fun p e s m args below meth c ls E hl hW => ?_)
  obtain ⟨hx, hb, hml, hown, hr, hlk, hex, hE, hcl⟩ := id E
  have hl : lv_has ls 3 [(0, .ref (ha G 0)), (1, .ref (ha G 49))] := hl
  refine lv_aload_n hx hb d_L_rank_0 rfl (lv_at hl 1 rfl) ?_
  refine lv_iconst (v := 0) hx hb d_L_rank_1 (by decide) ?_
  refine lv_aload_n hx hb d_L_rank_2 rfl (lv_at hl 0 rfl) ?_
  refine yk_l E (yVXh (As := []) (rest := [.int (0 : Int32), .ref (ha G 49)]) E (c_O_rank _ _ _ hP) (cw_L_54 hE) (yrv_0 hE hW) (by decide) hW hl.1 rfl rfl rfl d_L_rank_3) hW (fun x2 z1 H locs hP hW => ?_) (fun ea k z1 H locs hX hW => ?_)
  · skip
    refine ys_49 hx hb hE hW hP.1 d_L_rank_6 (fun z3 H locs e_z3 hW => ?_)
    have hP := hP.2
    have hP := hP z3 e_z3
    refine lv_goto (tgt := 16) hx hb d_L_rank_7 rfl ?_
    refine lv_iconst (v := 0) hx hb d_L_rank_16 (by decide) ?_
    exact yr_iC hx hb hr hlk hW hP d_L_rank_17 (by decide) (by decide)
  · rcases hX with ⟨rfl, hP⟩ | ⟨rfl, hP⟩
    · refine ⟨10, by decide, rfl, ?_⟩
      refine lv_astore_n (lv' := [(2, .ref ea), (0, .ref (ha G 0)), (1, .ref (ha G 49))]) hx hb d_L_rank_10 rfl hl (by decide) rfl (fun ls hl => ?_)
      refine lv_iconst (v := 1) hx hb d_L_rank_11 (by decide) ?_
      exact yr_iC hx hb hr hlk hW hP d_L_rank_12 (by decide) (by decide)
    · refine ⟨13, by decide, rfl, ?_⟩
      refine lv_astore_n (lv' := [(2, .ref ea), (0, .ref (ha G 0)), (1, .ref (ha G 49))]) hx hb d_L_rank_13 rfl hl (by decide) rfl (fun ls hl => ?_)
      refine lv_iconst (v := 2) hx hb d_L_rank_14 (by decide) ?_
      exact yr_iC hx hb hr hlk hW hP d_L_rank_15 (by decide) (by decide)
theorem d_L_dice_0 : decode cc_L_dice 0 = .ok (.aload_n 2, 1) := by decide +kernel
theorem d_L_dice_1 : decode cc_L_dice 1 = .ok (.iconst 0, 1) := by decide +kernel
theorem d_L_dice_2 : decode cc_L_dice 2 = .ok (.aload_n 0, 1) := by decide +kernel
theorem d_L_dice_3 : decode cc_L_dice 3 = .ok (.iload_n 1, 1) := by decide +kernel
theorem d_L_dice_4 : decode cc_L_dice 4 = .ok (.invokevirtual 59, 3) := by decide +kernel
theorem d_L_dice_7 : decode cc_L_dice 7 = .ok (.i2l, 1) := by decide +kernel
theorem d_L_dice_8 : decode cc_L_dice 8 = .ok (.lastore, 1) := by decide +kernel
theorem d_L_dice_9 : decode cc_L_dice 9 = .ok (.goto 12, 3) := by decide +kernel
theorem d_L_dice_12 : decode cc_L_dice 12 = .ok (.astore_n 3, 1) := by decide +kernel
theorem d_L_dice_13 : decode cc_L_dice 13 = .ok (.iconst 1, 1) := by decide +kernel
theorem d_L_dice_14 : decode cc_L_dice 14 = .ok (.ireturn, 1) := by decide +kernel
theorem d_L_dice_15 : decode cc_L_dice 15 = .ok (.astore_n 3, 1) := by decide +kernel
theorem d_L_dice_16 : decode cc_L_dice 16 = .ok (.iconst 2, 1) := by decide +kernel
theorem d_L_dice_17 : decode cc_L_dice 17 = .ok (.ireturn, 1) := by decide +kernel
theorem d_L_dice_18 : decode cc_L_dice 18 = .ok (.astore_n 3, 1) := by decide +kernel
theorem d_L_dice_19 : decode cc_L_dice 19 = .ok (.iconst 3, 1) := by decide +kernel
theorem d_L_dice_20 : decode cc_L_dice 20 = .ok (.ireturn, 1) := by decide +kernel
theorem d_L_dice_21 : decode cc_L_dice 21 = .ok (.iconst 0, 1) := by decide +kernel
theorem d_L_dice_22 : decode cc_L_dice 22 = .ok (.ireturn, 1) := by decide +kernel
abbrev cl_L_dice : List Clause := [(0, 9, 12, 13, 0), (0, 9, 15, 33, 3), (0, 9, 18, 15, 1)]
theorem cl_L_dice_ok {l : Launch} {G : GG} {s : State} {args : Array Value} (h : KK l G s) : ∀ q ∈ cl_L_dice, q.2.2.2.2 < 4 ∧ (Cond.classLink R_L q.2.2.2.1 (xcn q.2.2.2.2)).before args s = true := by
  intro q hq
  simp only [List.mem_cons, List.not_mem_nil, or_false] at hq
  rcases hq with rfl | rfl | rfl
  · exact ⟨by decide, h.w (List.mem_append_right _ (List.mem_append_right _ (List.mem_append_left _ (List.mem_of_getElem? (i := 139) rfl)))) rfl⟩
  · exact ⟨by decide, h.w (List.mem_append_right _ (List.mem_append_right _ (List.mem_append_right _ (List.mem_append_left _ (List.mem_of_getElem? (i := 66) rfl))))) rfl⟩
  · exact ⟨by decide, h.w (List.mem_append_right _ (List.mem_append_right _ (List.mem_append_left _ (List.mem_of_getElem? (i := 140) rfl)))) rfl⟩
def P_L_dice (a1 : Int32) (z0 : St) (Q : Int32 → St → Prop) : Prop := P_O_dice a1 z0 (fun (x2 : Int32) (z1 : St) => vp_in (0 : Int32) 1 ∧ ∀ z3 : St, z3 = wL z1 49 (0 : Int32).toNatClampNeg x2.toInt64 → Q (0 : Int32) z3) (fun (k : Nat) (z1 : St) => (k = 0 ∧ Q (1 : Int32) z1) ∨ (k = 3 ∧ Q (2 : Int32) z1) ∨ (k = 1 ∧ Q (3 : Int32) z1))
set_option maxHeartbeats 4000000 in
set_option maxRecDepth 100000 in
theorem c_L_dice {l : Launch} {G : GG} (a1 : Int32) (z0 : St) (Q : Int32 → St → Prop) (hP : P_L_dice a1 z0 Q) : CtiW l y_L_dice cc_L_dice 4 (some .int) cl_L_dice rm_L_dice G [.ref (ha G 0), .int a1, .ref (ha G 49)] z0 Q := by
  refine CtiW.op (own := R_L) (by decide) rfl (Nat.le_of_ble_eq_true rfl) (fun _ _ h => cl_L_dice_ok h) (fun p e s m args below meth c ls E hl hW => ?_)
  obtain ⟨hx, hb, hml, hown, hr, hlk, hex, hE, hcl⟩ := id E
  have hl : lv_has ls 4 [(0, .ref (ha G 0)), (1, .int a1), (2, .ref (ha G 49))] := hl
  refine lv_aload_n hx hb d_L_dice_0 rfl (lv_at hl 2 rfl) ?_
  refine lv_iconst (v := 0) hx hb d_L_dice_1 (by decide) ?_
  refine lv_aload_n hx hb d_L_dice_2 rfl (lv_at hl 0 rfl) ?_
  refine lv_iload_n hx hb d_L_dice_3 rfl (lv_at hl 1 rfl) ?_
  refine yk_i E (yVXh (As := [.int a1]) (rest := [.int (0 : Int32), .ref (ha G 49)]) E (c_O_dice _ _ _ _ hP) (cw_L_59 hE) (yrv_0 hE hW) (by decide) hW hl.1 rfl rfl rfl d_L_dice_4) hW (fun x2 z1 H locs hP hW => ?_) (fun ea k z1 H locs hX hW => ?_)
  · skip
    refine lv_i2l hx hb d_L_dice_7 rfl ?_
    refine ys_49 hx hb hE hW hP.1 d_L_dice_8 (fun z3 H locs e_z3 hW => ?_)
    have hP := hP.2
    have hP := hP z3 e_z3
    refine lv_goto (tgt := 21) hx hb d_L_dice_9 rfl ?_
    refine lv_iconst (v := 0) hx hb d_L_dice_21 (by decide) ?_
    exact yr_iC hx hb hr hlk hW hP d_L_dice_22 (by decide) (by decide)
  · rcases hX with ⟨rfl, hP⟩ | ⟨rfl, hP⟩ | ⟨rfl, hP⟩
    · refine ⟨12, by decide, rfl, ?_⟩
      refine lv_astore_n (lv' := [(3, .ref ea), (0, .ref (ha G 0)), (1, .int a1), (2, .ref (ha G 49))]) hx hb d_L_dice_12 rfl hl (by decide) rfl (fun ls hl => ?_)
      refine lv_iconst (v := 1) hx hb d_L_dice_13 (by decide) ?_
      exact yr_iC hx hb hr hlk hW hP d_L_dice_14 (by decide) (by decide)
    · refine ⟨15, by decide, rfl, ?_⟩
      refine lv_astore_n (lv' := [(3, .ref ea), (0, .ref (ha G 0)), (1, .int a1), (2, .ref (ha G 49))]) hx hb d_L_dice_15 rfl hl (by decide) rfl (fun ls hl => ?_)
      refine lv_iconst (v := 2) hx hb d_L_dice_16 (by decide) ?_
      exact yr_iC hx hb hr hlk hW hP d_L_dice_17 (by decide) (by decide)
    · refine ⟨18, by decide, rfl, ?_⟩
      refine lv_astore_n (lv' := [(3, .ref ea), (0, .ref (ha G 0)), (1, .int a1), (2, .ref (ha G 49))]) hx hb d_L_dice_18 rfl hl (by decide) rfl (fun ls hl => ?_)
      refine lv_iconst (v := 3) hx hb d_L_dice_19 (by decide) ?_
      exact yr_iC hx hb hr hlk hW hP d_L_dice_20 (by decide) (by decide)
theorem d_L_roll_0 : decode cc_L_roll 0 = .ok (.aload_n 2, 1) := by decide +kernel
theorem d_L_roll_1 : decode cc_L_roll 1 = .ok (.iconst 0, 1) := by decide +kernel
theorem d_L_roll_2 : decode cc_L_roll 2 = .ok (.aload_n 0, 1) := by decide +kernel
theorem d_L_roll_3 : decode cc_L_roll 3 = .ok (.iload_n 1, 1) := by decide +kernel
theorem d_L_roll_4 : decode cc_L_roll 4 = .ok (.invokevirtual 62, 3) := by decide +kernel
theorem d_L_roll_7 : decode cc_L_roll 7 = .ok (.i2l, 1) := by decide +kernel
theorem d_L_roll_8 : decode cc_L_roll 8 = .ok (.lastore, 1) := by decide +kernel
theorem d_L_roll_9 : decode cc_L_roll 9 = .ok (.goto 9, 3) := by decide +kernel
theorem d_L_roll_12 : decode cc_L_roll 12 = .ok (.astore_n 3, 1) := by decide +kernel
theorem d_L_roll_13 : decode cc_L_roll 13 = .ok (.iconst 1, 1) := by decide +kernel
theorem d_L_roll_14 : decode cc_L_roll 14 = .ok (.ireturn, 1) := by decide +kernel
theorem d_L_roll_15 : decode cc_L_roll 15 = .ok (.astore_n 3, 1) := by decide +kernel
theorem d_L_roll_16 : decode cc_L_roll 16 = .ok (.iconst 2, 1) := by decide +kernel
theorem d_L_roll_17 : decode cc_L_roll 17 = .ok (.ireturn, 1) := by decide +kernel
theorem d_L_roll_18 : decode cc_L_roll 18 = .ok (.iconst 0, 1) := by decide +kernel
theorem d_L_roll_19 : decode cc_L_roll 19 = .ok (.ireturn, 1) := by decide +kernel
abbrev cl_L_roll : List Clause := [(0, 9, 12, 15, 1), (0, 9, 15, 13, 0)]
theorem cl_L_roll_ok {l : Launch} {G : GG} {s : State} {args : Array Value} (h : KK l G s) : ∀ q ∈ cl_L_roll, q.2.2.2.2 < 4 ∧ (Cond.classLink R_L q.2.2.2.1 (xcn q.2.2.2.2)).before args s = true := by
  intro q hq
  simp only [List.mem_cons, List.not_mem_nil, or_false] at hq
  rcases hq with rfl | rfl
  · exact ⟨by decide, h.w (List.mem_append_right _ (List.mem_append_right _ (List.mem_append_left _ (List.mem_of_getElem? (i := 140) rfl)))) rfl⟩
  · exact ⟨by decide, h.w (List.mem_append_right _ (List.mem_append_right _ (List.mem_append_left _ (List.mem_of_getElem? (i := 139) rfl)))) rfl⟩
def P_L_roll (a1 : Int32) (z0 : St) (Q : Int32 → St → Prop) : Prop := P_O_roll a1 z0 (fun (x2 : Int32) (z1 : St) => vp_in (0 : Int32) 1 ∧ ∀ z3 : St, z3 = wL z1 49 (0 : Int32).toNatClampNeg x2.toInt64 → Q (0 : Int32) z3) (fun (k : Nat) (z1 : St) => (k = 1 ∧ Q (1 : Int32) z1) ∨ (k = 0 ∧ Q (2 : Int32) z1))
set_option maxHeartbeats 4000000 in
set_option maxRecDepth 100000 in
theorem c_L_roll {l : Launch} {G : GG} (a1 : Int32) (z0 : St) (Q : Int32 → St → Prop) (hP : P_L_roll a1 z0 Q) : CtiW l y_L_roll cc_L_roll 4 (some .int) cl_L_roll rm_L_roll G [.ref (ha G 0), .int a1, .ref (ha G 49)] z0 Q := by
  refine CtiW.op (own := R_L) (by decide) rfl (Nat.le_of_ble_eq_true rfl) (fun _ _ h => cl_L_roll_ok h) (fun p e s m args below meth c ls E hl hW => ?_)
  obtain ⟨hx, hb, hml, hown, hr, hlk, hex, hE, hcl⟩ := id E
  have hl : lv_has ls 4 [(0, .ref (ha G 0)), (1, .int a1), (2, .ref (ha G 49))] := hl
  refine lv_aload_n hx hb d_L_roll_0 rfl (lv_at hl 2 rfl) ?_
  refine lv_iconst (v := 0) hx hb d_L_roll_1 (by decide) ?_
  refine lv_aload_n hx hb d_L_roll_2 rfl (lv_at hl 0 rfl) ?_
  refine lv_iload_n hx hb d_L_roll_3 rfl (lv_at hl 1 rfl) ?_
  refine yk_i E (yVXh (As := [.int a1]) (rest := [.int (0 : Int32), .ref (ha G 49)]) E (c_O_roll _ _ _ _ hP) (cw_L_62 hE) (yrv_0 hE hW) (by decide) hW hl.1 rfl rfl rfl d_L_roll_4) hW (fun x2 z1 H locs hP hW => ?_) (fun ea k z1 H locs hX hW => ?_)
  · skip
    refine lv_i2l hx hb d_L_roll_7 rfl ?_
    refine ys_49 hx hb hE hW hP.1 d_L_roll_8 (fun z3 H locs e_z3 hW => ?_)
    have hP := hP.2
    have hP := hP z3 e_z3
    refine lv_goto (tgt := 18) hx hb d_L_roll_9 rfl ?_
    refine lv_iconst (v := 0) hx hb d_L_roll_18 (by decide) ?_
    exact yr_iC hx hb hr hlk hW hP d_L_roll_19 (by decide) (by decide)
  · rcases hX with ⟨rfl, hP⟩ | ⟨rfl, hP⟩
    · refine ⟨12, by decide, rfl, ?_⟩
      refine lv_astore_n (lv' := [(3, .ref ea), (0, .ref (ha G 0)), (1, .int a1), (2, .ref (ha G 49))]) hx hb d_L_roll_12 rfl hl (by decide) rfl (fun ls hl => ?_)
      refine lv_iconst (v := 1) hx hb d_L_roll_13 (by decide) ?_
      exact yr_iC hx hb hr hlk hW hP d_L_roll_14 (by decide) (by decide)
    · refine ⟨15, by decide, rfl, ?_⟩
      refine lv_astore_n (lv' := [(3, .ref ea), (0, .ref (ha G 0)), (1, .int a1), (2, .ref (ha G 49))]) hx hb d_L_roll_15 rfl hl (by decide) rfl (fun ls hl => ?_)
      refine lv_iconst (v := 2) hx hb d_L_roll_16 (by decide) ?_
      exact yr_iC hx hb hr hlk hW hP d_L_roll_17 (by decide) (by decide)
theorem d_L_number_0 : decode cc_L_number 0 = .ok (.aload_n 1, 1) := by decide +kernel
theorem d_L_number_1 : decode cc_L_number 1 = .ok (.iconst 0, 1) := by decide +kernel
theorem d_L_number_2 : decode cc_L_number 2 = .ok (.aload_n 0, 1) := by decide +kernel
theorem d_L_number_3 : decode cc_L_number 3 = .ok (.invokevirtual 65, 3) := by decide +kernel
theorem d_L_number_6 : decode cc_L_number 6 = .ok (.lastore, 1) := by decide +kernel
theorem d_L_number_7 : decode cc_L_number 7 = .ok (.goto 6, 3) := by decide +kernel
theorem d_L_number_10 : decode cc_L_number 10 = .ok (.astore_n 2, 1) := by decide +kernel
theorem d_L_number_11 : decode cc_L_number 11 = .ok (.iconst 1, 1) := by decide +kernel
theorem d_L_number_12 : decode cc_L_number 12 = .ok (.ireturn, 1) := by decide +kernel
theorem d_L_number_13 : decode cc_L_number 13 = .ok (.iconst 0, 1) := by decide +kernel
theorem d_L_number_14 : decode cc_L_number 14 = .ok (.ireturn, 1) := by decide +kernel
abbrev cl_L_number : List Clause := [(0, 7, 10, 57, 2)]
theorem cl_L_number_ok {l : Launch} {G : GG} {s : State} {args : Array Value} (h : KK l G s) : ∀ q ∈ cl_L_number, q.2.2.2.2 < 4 ∧ (Cond.classLink R_L q.2.2.2.1 (xcn q.2.2.2.2)).before args s = true := by
  intro q hq
  simp only [List.mem_cons, List.not_mem_nil, or_false] at hq
  rcases hq with rfl
  · exact ⟨by decide, h.w (List.mem_append_right _ (List.mem_append_right _ (List.mem_append_right _ (List.mem_append_left _ (List.mem_of_getElem? (i := 220) rfl))))) rfl⟩
def P_L_number (z0 : St) (Q : Int32 → St → Prop) : Prop := P_O_number z0 (fun (x2 : Int64) (z1 : St) => vp_in (0 : Int32) 1 ∧ ∀ z3 : St, z3 = wL z1 49 (0 : Int32).toNatClampNeg x2 → Q (0 : Int32) z3) (fun (k : Nat) (z1 : St) => (k = 2 ∧ Q (1 : Int32) z1))
set_option maxHeartbeats 4000000 in
set_option maxRecDepth 100000 in
theorem c_L_number {l : Launch} {G : GG} (z0 : St) (Q : Int32 → St → Prop) (hP : P_L_number z0 Q) : CtiW l y_L_number cc_L_number 3 (some .int) cl_L_number rm_L_number G [.ref (ha G 0), .ref (ha G 49)] z0 Q := by
  refine CtiW.op (own := R_L) (by decide) rfl (Nat.le_of_ble_eq_true rfl) (fun _ _ h => cl_L_number_ok h) (fun p e s m args below meth c ls E hl hW => ?_)
  obtain ⟨hx, hb, hml, hown, hr, hlk, hex, hE, hcl⟩ := id E
  have hl : lv_has ls 3 [(0, .ref (ha G 0)), (1, .ref (ha G 49))] := hl
  refine lv_aload_n hx hb d_L_number_0 rfl (lv_at hl 1 rfl) ?_
  refine lv_iconst (v := 0) hx hb d_L_number_1 (by decide) ?_
  refine lv_aload_n hx hb d_L_number_2 rfl (lv_at hl 0 rfl) ?_
  refine yk_l E (yVXh (As := []) (rest := [.int (0 : Int32), .ref (ha G 49)]) E (c_O_number _ _ _ hP) (cw_L_65 hE) (yrv_0 hE hW) (by decide) hW hl.1 rfl rfl rfl d_L_number_3) hW (fun x2 z1 H locs hP hW => ?_) (fun ea k z1 H locs hX hW => ?_)
  · skip
    refine ys_49 hx hb hE hW hP.1 d_L_number_6 (fun z3 H locs e_z3 hW => ?_)
    have hP := hP.2
    have hP := hP z3 e_z3
    refine lv_goto (tgt := 13) hx hb d_L_number_7 rfl ?_
    refine lv_iconst (v := 0) hx hb d_L_number_13 (by decide) ?_
    exact yr_iC hx hb hr hlk hW hP d_L_number_14 (by decide) (by decide)
  · obtain ⟨rfl, hP⟩ := hX
    refine ⟨10, by decide, rfl, ?_⟩
    refine lv_astore_n (lv' := [(2, .ref ea), (0, .ref (ha G 0)), (1, .ref (ha G 49))]) hx hb d_L_number_10 rfl hl (by decide) rfl (fun ls hl => ?_)
    refine lv_iconst (v := 1) hx hb d_L_number_11 (by decide) ?_
    exact yr_iC hx hb hr hlk hW hP d_L_number_12 (by decide) (by decide)
theorem d_L_draw_0 : decode cc_L_draw 0 = .ok (.aload_n 0, 1) := by decide +kernel
theorem d_L_draw_1 : decode cc_L_draw 1 = .ok (.invokevirtual 68, 3) := by decide +kernel
theorem d_L_draw_4 : decode cc_L_draw 4 = .ok (.goto 6, 3) := by decide +kernel
theorem d_L_draw_7 : decode cc_L_draw 7 = .ok (.astore_n 1, 1) := by decide +kernel
theorem d_L_draw_8 : decode cc_L_draw 8 = .ok (.iconst 1, 1) := by decide +kernel
theorem d_L_draw_9 : decode cc_L_draw 9 = .ok (.ireturn, 1) := by decide +kernel
theorem d_L_draw_10 : decode cc_L_draw 10 = .ok (.iconst 0, 1) := by decide +kernel
theorem d_L_draw_11 : decode cc_L_draw 11 = .ok (.ireturn, 1) := by decide +kernel
abbrev cl_L_draw : List Clause := [(0, 4, 7, 15, 1)]
theorem cl_L_draw_ok {l : Launch} {G : GG} {s : State} {args : Array Value} (h : KK l G s) : ∀ q ∈ cl_L_draw, q.2.2.2.2 < 4 ∧ (Cond.classLink R_L q.2.2.2.1 (xcn q.2.2.2.2)).before args s = true := by
  intro q hq
  simp only [List.mem_cons, List.not_mem_nil, or_false] at hq
  rcases hq with rfl
  · exact ⟨by decide, h.w (List.mem_append_right _ (List.mem_append_right _ (List.mem_append_left _ (List.mem_of_getElem? (i := 140) rfl)))) rfl⟩
def P_L_draw (z0 : St) (Q : Int32 → St → Prop) : Prop := P_O_draw z0 (fun (z1 : St) => Q (0 : Int32) z1) (fun (k : Nat) (z1 : St) => (k = 1 ∧ Q (1 : Int32) z1))
set_option maxHeartbeats 4000000 in
set_option maxRecDepth 100000 in
theorem c_L_draw {l : Launch} {G : GG} (z0 : St) (Q : Int32 → St → Prop) (hP : P_L_draw z0 Q) : CtiW l y_L_draw cc_L_draw 2 (some .int) cl_L_draw rm_L_draw G [.ref (ha G 0)] z0 Q := by
  refine CtiW.op (own := R_L) (by decide) rfl (Nat.le_of_ble_eq_true rfl) (fun _ _ h => cl_L_draw_ok h) (fun p e s m args below meth c ls E hl hW => ?_)
  obtain ⟨hx, hb, hml, hown, hr, hlk, hex, hE, hcl⟩ := id E
  have hl : lv_has ls 2 [(0, .ref (ha G 0))] := hl
  refine lv_aload_n hx hb d_L_draw_0 rfl (lv_at hl 0 rfl) ?_
  refine yk_v E (yVXh (As := []) (rest := []) E (c_O_draw _ _ _ hP) (cw_L_68 hE) (yrv_0 hE hW) (by decide) hW hl.1 rfl rfl rfl d_L_draw_1) hW (fun z1 H locs hP hW => ?_) (fun ea k z1 H locs hX hW => ?_)
  · skip
    refine lv_goto (tgt := 10) hx hb d_L_draw_4 rfl ?_
    refine lv_iconst (v := 0) hx hb d_L_draw_10 (by decide) ?_
    exact yr_iC hx hb hr hlk hW hP d_L_draw_11 (by decide) (by decide)
  · obtain ⟨rfl, hP⟩ := hX
    refine ⟨7, by decide, rfl, ?_⟩
    refine lv_astore_n (lv' := [(1, .ref ea), (0, .ref (ha G 0))]) hx hb d_L_draw_7 rfl hl (by decide) rfl (fun ls hl => ?_)
    refine lv_iconst (v := 1) hx hb d_L_draw_8 (by decide) ?_
    exact yr_iC hx hb hr hlk hW hP d_L_draw_9 (by decide) (by decide)
theorem d_L_member_0 : decode cc_L_member 0 = .ok (.aload_n 2, 1) := by decide +kernel
theorem d_L_member_1 : decode cc_L_member 1 = .ok (.iconst 0, 1) := by decide +kernel
theorem d_L_member_2 : decode cc_L_member 2 = .ok (.aload_n 0, 1) := by decide +kernel
theorem d_L_member_3 : decode cc_L_member 3 = .ok (.iload_n 1, 1) := by decide +kernel
theorem d_L_member_4 : decode cc_L_member 4 = .ok (.invokevirtual 71, 3) := by decide +kernel
theorem d_L_member_7 : decode cc_L_member 7 = .ok (.i2l, 1) := by decide +kernel
theorem d_L_member_8 : decode cc_L_member 8 = .ok (.lastore, 1) := by decide +kernel
theorem d_L_member_9 : decode cc_L_member 9 = .ok (.goto 9, 3) := by decide +kernel
theorem d_L_member_12 : decode cc_L_member 12 = .ok (.astore_n 3, 1) := by decide +kernel
theorem d_L_member_13 : decode cc_L_member 13 = .ok (.iconst 1, 1) := by decide +kernel
theorem d_L_member_14 : decode cc_L_member 14 = .ok (.ireturn, 1) := by decide +kernel
theorem d_L_member_15 : decode cc_L_member 15 = .ok (.astore_n 3, 1) := by decide +kernel
theorem d_L_member_16 : decode cc_L_member 16 = .ok (.iconst 2, 1) := by decide +kernel
theorem d_L_member_17 : decode cc_L_member 17 = .ok (.ireturn, 1) := by decide +kernel
theorem d_L_member_18 : decode cc_L_member 18 = .ok (.iconst 0, 1) := by decide +kernel
theorem d_L_member_19 : decode cc_L_member 19 = .ok (.ireturn, 1) := by decide +kernel
abbrev cl_L_member : List Clause := [(0, 9, 12, 15, 1), (0, 9, 15, 13, 0)]
theorem cl_L_member_ok {l : Launch} {G : GG} {s : State} {args : Array Value} (h : KK l G s) : ∀ q ∈ cl_L_member, q.2.2.2.2 < 4 ∧ (Cond.classLink R_L q.2.2.2.1 (xcn q.2.2.2.2)).before args s = true := by
  intro q hq
  simp only [List.mem_cons, List.not_mem_nil, or_false] at hq
  rcases hq with rfl | rfl
  · exact ⟨by decide, h.w (List.mem_append_right _ (List.mem_append_right _ (List.mem_append_left _ (List.mem_of_getElem? (i := 140) rfl)))) rfl⟩
  · exact ⟨by decide, h.w (List.mem_append_right _ (List.mem_append_right _ (List.mem_append_left _ (List.mem_of_getElem? (i := 139) rfl)))) rfl⟩
def P_L_member (a1 : Int32) (z0 : St) (Q : Int32 → St → Prop) : Prop := P_O_member a1 z0 (fun (x2 : Int32) (z1 : St) => vp_in (0 : Int32) 1 ∧ ∀ z3 : St, z3 = wL z1 49 (0 : Int32).toNatClampNeg x2.toInt64 → Q (0 : Int32) z3) (fun (k : Nat) (z1 : St) => (k = 1 ∧ Q (1 : Int32) z1) ∨ (k = 0 ∧ Q (2 : Int32) z1))
set_option maxHeartbeats 4000000 in
set_option maxRecDepth 100000 in
theorem c_L_member {l : Launch} {G : GG} (a1 : Int32) (z0 : St) (Q : Int32 → St → Prop) (hP : P_L_member a1 z0 Q) : CtiW l y_L_member cc_L_member 4 (some .int) cl_L_member rm_L_member G [.ref (ha G 0), .int a1, .ref (ha G 49)] z0 Q := by
  refine CtiW.op (own := R_L) (by decide) rfl (Nat.le_of_ble_eq_true rfl) (fun _ _ h => cl_L_member_ok h) (fun p e s m args below meth c ls E hl hW => ?_)
  obtain ⟨hx, hb, hml, hown, hr, hlk, hex, hE, hcl⟩ := id E
  have hl : lv_has ls 4 [(0, .ref (ha G 0)), (1, .int a1), (2, .ref (ha G 49))] := hl
  refine lv_aload_n hx hb d_L_member_0 rfl (lv_at hl 2 rfl) ?_
  refine lv_iconst (v := 0) hx hb d_L_member_1 (by decide) ?_
  refine lv_aload_n hx hb d_L_member_2 rfl (lv_at hl 0 rfl) ?_
  refine lv_iload_n hx hb d_L_member_3 rfl (lv_at hl 1 rfl) ?_
  refine yk_i E (yVXh (As := [.int a1]) (rest := [.int (0 : Int32), .ref (ha G 49)]) E (c_O_member _ _ _ _ hP) (cw_L_71 hE) (yrv_0 hE hW) (by decide) hW hl.1 rfl rfl rfl d_L_member_4) hW (fun x2 z1 H locs hP hW => ?_) (fun ea k z1 H locs hX hW => ?_)
  · skip
    refine lv_i2l hx hb d_L_member_7 rfl ?_
    refine ys_49 hx hb hE hW hP.1 d_L_member_8 (fun z3 H locs e_z3 hW => ?_)
    have hP := hP.2
    have hP := hP z3 e_z3
    refine lv_goto (tgt := 18) hx hb d_L_member_9 rfl ?_
    refine lv_iconst (v := 0) hx hb d_L_member_18 (by decide) ?_
    exact yr_iC hx hb hr hlk hW hP d_L_member_19 (by decide) (by decide)
  · rcases hX with ⟨rfl, hP⟩ | ⟨rfl, hP⟩
    · refine ⟨12, by decide, rfl, ?_⟩
      refine lv_astore_n (lv' := [(3, .ref ea), (0, .ref (ha G 0)), (1, .int a1), (2, .ref (ha G 49))]) hx hb d_L_member_12 rfl hl (by decide) rfl (fun ls hl => ?_)
      refine lv_iconst (v := 1) hx hb d_L_member_13 (by decide) ?_
      exact yr_iC hx hb hr hlk hW hP d_L_member_14 (by decide) (by decide)
    · refine ⟨15, by decide, rfl, ?_⟩
      refine lv_astore_n (lv' := [(3, .ref ea), (0, .ref (ha G 0)), (1, .int a1), (2, .ref (ha G 49))]) hx hb d_L_member_15 rfl hl (by decide) rfl (fun ls hl => ?_)
      refine lv_iconst (v := 2) hx hb d_L_member_16 (by decide) ?_
      exact yr_iC hx hb hr hlk hW hP d_L_member_17 (by decide) (by decide)
theorem d_L_dropOut_0 : decode cc_L_dropOut 0 = .ok (.aload_n 0, 1) := by decide +kernel
theorem d_L_dropOut_1 : decode cc_L_dropOut 1 = .ok (.iload_n 1, 1) := by decide +kernel
theorem d_L_dropOut_2 : decode cc_L_dropOut 2 = .ok (.invokevirtual 74, 3) := by decide +kernel
theorem d_L_dropOut_5 : decode cc_L_dropOut 5 = .ok (.goto 9, 3) := by decide +kernel
theorem d_L_dropOut_8 : decode cc_L_dropOut 8 = .ok (.astore_n 2, 1) := by decide +kernel
theorem d_L_dropOut_9 : decode cc_L_dropOut 9 = .ok (.iconst 1, 1) := by decide +kernel
theorem d_L_dropOut_10 : decode cc_L_dropOut 10 = .ok (.ireturn, 1) := by decide +kernel
theorem d_L_dropOut_11 : decode cc_L_dropOut 11 = .ok (.astore_n 2, 1) := by decide +kernel
theorem d_L_dropOut_12 : decode cc_L_dropOut 12 = .ok (.iconst 2, 1) := by decide +kernel
theorem d_L_dropOut_13 : decode cc_L_dropOut 13 = .ok (.ireturn, 1) := by decide +kernel
theorem d_L_dropOut_14 : decode cc_L_dropOut 14 = .ok (.iconst 0, 1) := by decide +kernel
theorem d_L_dropOut_15 : decode cc_L_dropOut 15 = .ok (.ireturn, 1) := by decide +kernel
abbrev cl_L_dropOut : List Clause := [(0, 5, 8, 15, 1), (0, 5, 11, 57, 2)]
theorem cl_L_dropOut_ok {l : Launch} {G : GG} {s : State} {args : Array Value} (h : KK l G s) : ∀ q ∈ cl_L_dropOut, q.2.2.2.2 < 4 ∧ (Cond.classLink R_L q.2.2.2.1 (xcn q.2.2.2.2)).before args s = true := by
  intro q hq
  simp only [List.mem_cons, List.not_mem_nil, or_false] at hq
  rcases hq with rfl | rfl
  · exact ⟨by decide, h.w (List.mem_append_right _ (List.mem_append_right _ (List.mem_append_left _ (List.mem_of_getElem? (i := 140) rfl)))) rfl⟩
  · exact ⟨by decide, h.w (List.mem_append_right _ (List.mem_append_right _ (List.mem_append_right _ (List.mem_append_left _ (List.mem_of_getElem? (i := 220) rfl))))) rfl⟩
def P_L_dropOut (a1 : Int32) (z0 : St) (Q : Int32 → St → Prop) : Prop := P_O_dropOut a1 z0 (fun (z1 : St) => Q (0 : Int32) z1) (fun (k : Nat) (z1 : St) => (k = 1 ∧ Q (1 : Int32) z1) ∨ (k = 2 ∧ Q (2 : Int32) z1))
set_option maxHeartbeats 4000000 in
set_option maxRecDepth 100000 in
theorem c_L_dropOut {l : Launch} {G : GG} (a1 : Int32) (z0 : St) (Q : Int32 → St → Prop) (hP : P_L_dropOut a1 z0 Q) : CtiW l y_L_dropOut cc_L_dropOut 3 (some .int) cl_L_dropOut rm_L_dropOut G [.ref (ha G 0), .int a1] z0 Q := by
  refine CtiW.op (own := R_L) (by decide) rfl (Nat.le_of_ble_eq_true rfl) (fun _ _ h => cl_L_dropOut_ok h) (fun p e s m args below meth c ls E hl hW => ?_)
  obtain ⟨hx, hb, hml, hown, hr, hlk, hex, hE, hcl⟩ := id E
  have hl : lv_has ls 3 [(0, .ref (ha G 0)), (1, .int a1)] := hl
  refine lv_aload_n hx hb d_L_dropOut_0 rfl (lv_at hl 0 rfl) ?_
  refine lv_iload_n hx hb d_L_dropOut_1 rfl (lv_at hl 1 rfl) ?_
  refine yk_v E (yVXh (As := [.int a1]) (rest := []) E (c_O_dropOut _ _ _ _ hP) (cw_L_74 hE) (yrv_0 hE hW) (by decide) hW hl.1 rfl rfl rfl d_L_dropOut_2) hW (fun z1 H locs hP hW => ?_) (fun ea k z1 H locs hX hW => ?_)
  · skip
    refine lv_goto (tgt := 14) hx hb d_L_dropOut_5 rfl ?_
    refine lv_iconst (v := 0) hx hb d_L_dropOut_14 (by decide) ?_
    exact yr_iC hx hb hr hlk hW hP d_L_dropOut_15 (by decide) (by decide)
  · rcases hX with ⟨rfl, hP⟩ | ⟨rfl, hP⟩
    · refine ⟨8, by decide, rfl, ?_⟩
      refine lv_astore_n (lv' := [(2, .ref ea), (0, .ref (ha G 0)), (1, .int a1)]) hx hb d_L_dropOut_8 rfl hl (by decide) rfl (fun ls hl => ?_)
      refine lv_iconst (v := 1) hx hb d_L_dropOut_9 (by decide) ?_
      exact yr_iC hx hb hr hlk hW hP d_L_dropOut_10 (by decide) (by decide)
    · refine ⟨11, by decide, rfl, ?_⟩
      refine lv_astore_n (lv' := [(2, .ref ea), (0, .ref (ha G 0)), (1, .int a1)]) hx hb d_L_dropOut_11 rfl hl (by decide) rfl (fun ls hl => ?_)
      refine lv_iconst (v := 2) hx hb d_L_dropOut_12 (by decide) ?_
      exact yr_iC hx hb hr hlk hW hP d_L_dropOut_13 (by decide) (by decide)
theorem d_L_candidate_0 : decode cc_L_candidate 0 = .ok (.aload_n 2, 1) := by decide +kernel
theorem d_L_candidate_1 : decode cc_L_candidate 1 = .ok (.iconst 0, 1) := by decide +kernel
theorem d_L_candidate_2 : decode cc_L_candidate 2 = .ok (.aload_n 0, 1) := by decide +kernel
theorem d_L_candidate_3 : decode cc_L_candidate 3 = .ok (.iload_n 1, 1) := by decide +kernel
theorem d_L_candidate_4 : decode cc_L_candidate 4 = .ok (.invokevirtual 77, 3) := by decide +kernel
theorem d_L_candidate_7 : decode cc_L_candidate 7 = .ok (.i2l, 1) := by decide +kernel
theorem d_L_candidate_8 : decode cc_L_candidate 8 = .ok (.lastore, 1) := by decide +kernel
theorem d_L_candidate_9 : decode cc_L_candidate 9 = .ok (.goto 6, 3) := by decide +kernel
theorem d_L_candidate_12 : decode cc_L_candidate 12 = .ok (.astore_n 3, 1) := by decide +kernel
theorem d_L_candidate_13 : decode cc_L_candidate 13 = .ok (.iconst 1, 1) := by decide +kernel
theorem d_L_candidate_14 : decode cc_L_candidate 14 = .ok (.ireturn, 1) := by decide +kernel
theorem d_L_candidate_15 : decode cc_L_candidate 15 = .ok (.iconst 0, 1) := by decide +kernel
theorem d_L_candidate_16 : decode cc_L_candidate 16 = .ok (.ireturn, 1) := by decide +kernel
abbrev cl_L_candidate : List Clause := [(0, 9, 12, 13, 0)]
theorem cl_L_candidate_ok {l : Launch} {G : GG} {s : State} {args : Array Value} (h : KK l G s) : ∀ q ∈ cl_L_candidate, q.2.2.2.2 < 4 ∧ (Cond.classLink R_L q.2.2.2.1 (xcn q.2.2.2.2)).before args s = true := by
  intro q hq
  simp only [List.mem_cons, List.not_mem_nil, or_false] at hq
  rcases hq with rfl
  · exact ⟨by decide, h.w (List.mem_append_right _ (List.mem_append_right _ (List.mem_append_left _ (List.mem_of_getElem? (i := 139) rfl)))) rfl⟩
def P_L_candidate (a1 : Int32) (z0 : St) (Q : Int32 → St → Prop) : Prop := P_O_candidate a1 z0 (fun (x2 : Int32) (z1 : St) => vp_in (0 : Int32) 1 ∧ ∀ z3 : St, z3 = wL z1 49 (0 : Int32).toNatClampNeg x2.toInt64 → Q (0 : Int32) z3) (fun (k : Nat) (z1 : St) => (k = 0 ∧ Q (1 : Int32) z1))
set_option maxHeartbeats 4000000 in
set_option maxRecDepth 100000 in
theorem c_L_candidate {l : Launch} {G : GG} (a1 : Int32) (z0 : St) (Q : Int32 → St → Prop) (hP : P_L_candidate a1 z0 Q) : CtiW l y_L_candidate cc_L_candidate 4 (some .int) cl_L_candidate rm_L_candidate G [.ref (ha G 0), .int a1, .ref (ha G 49)] z0 Q := by
  refine CtiW.op (own := R_L) (by decide) rfl (Nat.le_of_ble_eq_true rfl) (fun _ _ h => cl_L_candidate_ok h) (fun p e s m args below meth c ls E hl hW => ?_)
  obtain ⟨hx, hb, hml, hown, hr, hlk, hex, hE, hcl⟩ := id E
  have hl : lv_has ls 4 [(0, .ref (ha G 0)), (1, .int a1), (2, .ref (ha G 49))] := hl
  refine lv_aload_n hx hb d_L_candidate_0 rfl (lv_at hl 2 rfl) ?_
  refine lv_iconst (v := 0) hx hb d_L_candidate_1 (by decide) ?_
  refine lv_aload_n hx hb d_L_candidate_2 rfl (lv_at hl 0 rfl) ?_
  refine lv_iload_n hx hb d_L_candidate_3 rfl (lv_at hl 1 rfl) ?_
  refine yk_i E (yVXh (As := [.int a1]) (rest := [.int (0 : Int32), .ref (ha G 49)]) E (c_O_candidate _ _ _ _ hP) (cw_L_77 hE) (yrv_0 hE hW) (by decide) hW hl.1 rfl rfl rfl d_L_candidate_4) hW (fun x2 z1 H locs hP hW => ?_) (fun ea k z1 H locs hX hW => ?_)
  · skip
    refine lv_i2l hx hb d_L_candidate_7 rfl ?_
    refine ys_49 hx hb hE hW hP.1 d_L_candidate_8 (fun z3 H locs e_z3 hW => ?_)
    have hP := hP.2
    have hP := hP z3 e_z3
    refine lv_goto (tgt := 15) hx hb d_L_candidate_9 rfl ?_
    refine lv_iconst (v := 0) hx hb d_L_candidate_15 (by decide) ?_
    exact yr_iC hx hb hr hlk hW hP d_L_candidate_16 (by decide) (by decide)
  · obtain ⟨rfl, hP⟩ := hX
    refine ⟨12, by decide, rfl, ?_⟩
    refine lv_astore_n (lv' := [(3, .ref ea), (0, .ref (ha G 0)), (1, .int a1), (2, .ref (ha G 49))]) hx hb d_L_candidate_12 rfl hl (by decide) rfl (fun ls hl => ?_)
    refine lv_iconst (v := 1) hx hb d_L_candidate_13 (by decide) ?_
    exact yr_iC hx hb hr hlk hW hP d_L_candidate_14 (by decide) (by decide)
theorem d_L_replace_0 : decode cc_L_replace 0 = .ok (.aload_n 1, 1) := by decide +kernel
theorem d_L_replace_1 : decode cc_L_replace 1 = .ok (.iconst 0, 1) := by decide +kernel
theorem d_L_replace_2 : decode cc_L_replace 2 = .ok (.aload_n 0, 1) := by decide +kernel
theorem d_L_replace_3 : decode cc_L_replace 3 = .ok (.invokevirtual 80, 3) := by decide +kernel
theorem d_L_replace_6 : decode cc_L_replace 6 = .ok (.i2l, 1) := by decide +kernel
theorem d_L_replace_7 : decode cc_L_replace 7 = .ok (.lastore, 1) := by decide +kernel
theorem d_L_replace_8 : decode cc_L_replace 8 = .ok (.goto 6, 3) := by decide +kernel
theorem d_L_replace_11 : decode cc_L_replace 11 = .ok (.astore_n 2, 1) := by decide +kernel
theorem d_L_replace_12 : decode cc_L_replace 12 = .ok (.iconst 1, 1) := by decide +kernel
theorem d_L_replace_13 : decode cc_L_replace 13 = .ok (.ireturn, 1) := by decide +kernel
theorem d_L_replace_14 : decode cc_L_replace 14 = .ok (.iconst 0, 1) := by decide +kernel
theorem d_L_replace_15 : decode cc_L_replace 15 = .ok (.ireturn, 1) := by decide +kernel
abbrev cl_L_replace : List Clause := [(0, 8, 11, 15, 1)]
theorem cl_L_replace_ok {l : Launch} {G : GG} {s : State} {args : Array Value} (h : KK l G s) : ∀ q ∈ cl_L_replace, q.2.2.2.2 < 4 ∧ (Cond.classLink R_L q.2.2.2.1 (xcn q.2.2.2.2)).before args s = true := by
  intro q hq
  simp only [List.mem_cons, List.not_mem_nil, or_false] at hq
  rcases hq with rfl
  · exact ⟨by decide, h.w (List.mem_append_right _ (List.mem_append_right _ (List.mem_append_left _ (List.mem_of_getElem? (i := 140) rfl)))) rfl⟩
def P_L_replace (z0 : St) (Q : Int32 → St → Prop) : Prop := P_O_replace z0 (fun (x2 : Int32) (z1 : St) => vp_in (0 : Int32) 1 ∧ ∀ z3 : St, z3 = wL z1 49 (0 : Int32).toNatClampNeg x2.toInt64 → Q (0 : Int32) z3) (fun (k : Nat) (z1 : St) => (k = 1 ∧ Q (1 : Int32) z1))
set_option maxHeartbeats 4000000 in
set_option maxRecDepth 100000 in
theorem c_L_replace {l : Launch} {G : GG} (z0 : St) (Q : Int32 → St → Prop) (hP : P_L_replace z0 Q) : CtiW l y_L_replace cc_L_replace 3 (some .int) cl_L_replace rm_L_replace G [.ref (ha G 0), .ref (ha G 49)] z0 Q := by
  refine CtiW.op (own := R_L) (by decide) rfl (Nat.le_of_ble_eq_true rfl) (fun _ _ h => cl_L_replace_ok h) (fun p e s m args below meth c ls E hl hW => ?_)
  obtain ⟨hx, hb, hml, hown, hr, hlk, hex, hE, hcl⟩ := id E
  have hl : lv_has ls 3 [(0, .ref (ha G 0)), (1, .ref (ha G 49))] := hl
  refine lv_aload_n hx hb d_L_replace_0 rfl (lv_at hl 1 rfl) ?_
  refine lv_iconst (v := 0) hx hb d_L_replace_1 (by decide) ?_
  refine lv_aload_n hx hb d_L_replace_2 rfl (lv_at hl 0 rfl) ?_
  refine yk_i E (yVXh (As := []) (rest := [.int (0 : Int32), .ref (ha G 49)]) E (c_O_replace _ _ _ hP) (cw_L_80 hE) (yrv_0 hE hW) (by decide) hW hl.1 rfl rfl rfl d_L_replace_3) hW (fun x2 z1 H locs hP hW => ?_) (fun ea k z1 H locs hX hW => ?_)
  · skip
    refine lv_i2l hx hb d_L_replace_6 rfl ?_
    refine ys_49 hx hb hE hW hP.1 d_L_replace_7 (fun z3 H locs e_z3 hW => ?_)
    have hP := hP.2
    have hP := hP z3 e_z3
    refine lv_goto (tgt := 14) hx hb d_L_replace_8 rfl ?_
    refine lv_iconst (v := 0) hx hb d_L_replace_14 (by decide) ?_
    exact yr_iC hx hb hr hlk hW hP d_L_replace_15 (by decide) (by decide)
  · obtain ⟨rfl, hP⟩ := hX
    refine ⟨11, by decide, rfl, ?_⟩
    refine lv_astore_n (lv' := [(2, .ref ea), (0, .ref (ha G 0)), (1, .ref (ha G 49))]) hx hb d_L_replace_11 rfl hl (by decide) rfl (fun ls hl => ?_)
    refine lv_iconst (v := 1) hx hb d_L_replace_12 (by decide) ?_
    exact yr_iC hx hb hr hlk hW hP d_L_replace_13 (by decide) (by decide)
theorem d_L_breach_0 : decode cc_L_breach 0 = .ok (.aload_n 1, 1) := by decide +kernel
theorem d_L_breach_1 : decode cc_L_breach 1 = .ok (.iconst 0, 1) := by decide +kernel
theorem d_L_breach_2 : decode cc_L_breach 2 = .ok (.aload_n 0, 1) := by decide +kernel
theorem d_L_breach_3 : decode cc_L_breach 3 = .ok (.invokevirtual 84, 3) := by decide +kernel
theorem d_L_breach_6 : decode cc_L_breach 6 = .ok (.i2l, 1) := by decide +kernel
theorem d_L_breach_7 : decode cc_L_breach 7 = .ok (.lastore, 1) := by decide +kernel
theorem d_L_breach_8 : decode cc_L_breach 8 = .ok (.goto 6, 3) := by decide +kernel
theorem d_L_breach_11 : decode cc_L_breach 11 = .ok (.astore_n 2, 1) := by decide +kernel
theorem d_L_breach_12 : decode cc_L_breach 12 = .ok (.iconst 1, 1) := by decide +kernel
theorem d_L_breach_13 : decode cc_L_breach 13 = .ok (.ireturn, 1) := by decide +kernel
theorem d_L_breach_14 : decode cc_L_breach 14 = .ok (.iconst 0, 1) := by decide +kernel
theorem d_L_breach_15 : decode cc_L_breach 15 = .ok (.ireturn, 1) := by decide +kernel
abbrev cl_L_breach : List Clause := [(0, 8, 11, 15, 1)]
theorem cl_L_breach_ok {l : Launch} {G : GG} {s : State} {args : Array Value} (h : KK l G s) : ∀ q ∈ cl_L_breach, q.2.2.2.2 < 4 ∧ (Cond.classLink R_L q.2.2.2.1 (xcn q.2.2.2.2)).before args s = true := by
  intro q hq
  simp only [List.mem_cons, List.not_mem_nil, or_false] at hq
  rcases hq with rfl
  · exact ⟨by decide, h.w (List.mem_append_right _ (List.mem_append_right _ (List.mem_append_left _ (List.mem_of_getElem? (i := 140) rfl)))) rfl⟩
def P_L_breach (z0 : St) (Q : Int32 → St → Prop) : Prop := P_O_breach z0 (fun (x2 : Int32) (z1 : St) => vp_in (0 : Int32) 1 ∧ ∀ z3 : St, z3 = wL z1 49 (0 : Int32).toNatClampNeg x2.toInt64 → Q (0 : Int32) z3) (fun (k : Nat) (z1 : St) => (k = 1 ∧ Q (1 : Int32) z1))
set_option maxHeartbeats 4000000 in
set_option maxRecDepth 100000 in
theorem c_L_breach {l : Launch} {G : GG} (z0 : St) (Q : Int32 → St → Prop) (hP : P_L_breach z0 Q) : CtiW l y_L_breach cc_L_breach 3 (some .int) cl_L_breach rm_L_breach G [.ref (ha G 0), .ref (ha G 49)] z0 Q := by
  refine CtiW.op (own := R_L) (by decide) rfl (Nat.le_of_ble_eq_true rfl) (fun _ _ h => cl_L_breach_ok h) (fun p e s m args below meth c ls E hl hW => ?_)
  obtain ⟨hx, hb, hml, hown, hr, hlk, hex, hE, hcl⟩ := id E
  have hl : lv_has ls 3 [(0, .ref (ha G 0)), (1, .ref (ha G 49))] := hl
  refine lv_aload_n hx hb d_L_breach_0 rfl (lv_at hl 1 rfl) ?_
  refine lv_iconst (v := 0) hx hb d_L_breach_1 (by decide) ?_
  refine lv_aload_n hx hb d_L_breach_2 rfl (lv_at hl 0 rfl) ?_
  refine yk_i E (yVXh (As := []) (rest := [.int (0 : Int32), .ref (ha G 49)]) E (c_O_breach _ _ _ hP) (cw_L_84 hE) (yrv_0 hE hW) (by decide) hW hl.1 rfl rfl rfl d_L_breach_3) hW (fun x2 z1 H locs hP hW => ?_) (fun ea k z1 H locs hX hW => ?_)
  · skip
    refine lv_i2l hx hb d_L_breach_6 rfl ?_
    refine ys_49 hx hb hE hW hP.1 d_L_breach_7 (fun z3 H locs e_z3 hW => ?_)
    have hP := hP.2
    have hP := hP z3 e_z3
    refine lv_goto (tgt := 14) hx hb d_L_breach_8 rfl ?_
    refine lv_iconst (v := 0) hx hb d_L_breach_14 (by decide) ?_
    exact yr_iC hx hb hr hlk hW hP d_L_breach_15 (by decide) (by decide)
  · obtain ⟨rfl, hP⟩ := hX
    refine ⟨11, by decide, rfl, ?_⟩
    refine lv_astore_n (lv' := [(2, .ref ea), (0, .ref (ha G 0)), (1, .ref (ha G 49))]) hx hb d_L_breach_11 rfl hl (by decide) rfl (fun ls hl => ?_)
    refine lv_iconst (v := 1) hx hb d_L_breach_12 (by decide) ?_
    exact yr_iC hx hb hr hlk hW hP d_L_breach_13 (by decide) (by decide)
end Code
