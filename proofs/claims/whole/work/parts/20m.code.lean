/-! M_replace, M_breach, M_reset -/
section Code
variable {p : Program} {l : Launch} {e : Env} {s : State} {m : MethodId} {args : Array Value} {below : List Frame} {meth : Method} {c : Code} {G : GG}
theorem d_M_replace_0 : decode cc_M_replace 0 = .ok (.aload_n 0, 1) := by decide +kernel
theorem d_M_replace_1 : decode cc_M_replace 1 = .ok (.aload_n 0, 1) := by decide +kernel
theorem d_M_replace_2 : decode cc_M_replace 2 = .ok (.getfield 100, 3) := by decide +kernel
theorem d_M_replace_5 : decode cc_M_replace 5 = .ok (.ifCond .eq 18, 3) := by decide +kernel
theorem d_M_replace_8 : decode cc_M_replace 8 = .ok (.aload_n 0, 1) := by decide +kernel
theorem d_M_replace_9 : decode cc_M_replace 9 = .ok (.getfield 55, 3) := by decide +kernel
theorem d_M_replace_12 : decode cc_M_replace 12 = .ok (.iconst (-1), 1) := by decide +kernel
theorem d_M_replace_13 : decode cc_M_replace 13 = .ok (.if_icmp .eq 10, 3) := by decide +kernel
theorem d_M_replace_16 : decode cc_M_replace 16 = .ok (.aload_n 0, 1) := by decide +kernel
theorem d_M_replace_17 : decode cc_M_replace 17 = .ok (.getfield 90, 3) := by decide +kernel
theorem d_M_replace_20 : decode cc_M_replace 20 = .ok (.ifCond .ne 7, 3) := by decide +kernel
theorem d_M_replace_23 : decode cc_M_replace 23 = .ok (.iconst 1, 1) := by decide +kernel
theorem d_M_replace_24 : decode cc_M_replace 24 = .ok (.goto 4, 3) := by decide +kernel
theorem d_M_replace_27 : decode cc_M_replace 27 = .ok (.iconst 0, 1) := by decide +kernel
theorem d_M_replace_28 : decode cc_M_replace 28 = .ok (.putfield 70, 3) := by decide +kernel
theorem d_M_replace_31 : decode cc_M_replace 31 = .ok (.aload_n 0, 1) := by decide +kernel
theorem d_M_replace_32 : decode cc_M_replace 32 = .ok (.getfield 70, 3) := by decide +kernel
theorem d_M_replace_35 : decode cc_M_replace 35 = .ok (.ifCond .le 5, 3) := by decide +kernel
theorem d_M_replace_38 : decode cc_M_replace 38 = .ok (.iconst 0, 1) := by decide +kernel
theorem d_M_replace_39 : decode cc_M_replace 39 = .ok (.ireturn, 1) := by decide +kernel
theorem d_M_replace_40 : decode cc_M_replace 40 = .ok (.aload_n 0, 1) := by decide +kernel
theorem d_M_replace_41 : decode cc_M_replace 41 = .ok (.aload_n 0, 1) := by decide +kernel
theorem d_M_replace_42 : decode cc_M_replace 42 = .ok (.getfield 209, 3) := by decide +kernel
theorem d_M_replace_45 : decode cc_M_replace 45 = .ok (.invokevirtual 228, 3) := by decide +kernel
theorem d_M_replace_48 : decode cc_M_replace 48 = .ok (.istore_n 1, 1) := by decide +kernel
theorem d_M_replace_49 : decode cc_M_replace 49 = .ok (.aload_n 0, 1) := by decide +kernel
theorem d_M_replace_50 : decode cc_M_replace 50 = .ok (.getfield 52, 3) := by decide +kernel
theorem d_M_replace_53 : decode cc_M_replace 53 = .ok (.aload_n 0, 1) := by decide +kernel
theorem d_M_replace_54 : decode cc_M_replace 54 = .ok (.getfield 55, 3) := by decide +kernel
theorem d_M_replace_57 : decode cc_M_replace 57 = .ok (.iload_n 1, 1) := by decide +kernel
theorem d_M_replace_58 : decode cc_M_replace 58 = .ok (.iastore, 1) := by decide +kernel
theorem d_M_replace_59 : decode cc_M_replace 59 = .ok (.aload_n 0, 1) := by decide +kernel
theorem d_M_replace_60 : decode cc_M_replace 60 = .ok (.iconst (-1), 1) := by decide +kernel
theorem d_M_replace_61 : decode cc_M_replace 61 = .ok (.putfield 55, 3) := by decide +kernel
theorem d_M_replace_64 : decode cc_M_replace 64 = .ok (.aload_n 0, 1) := by decide +kernel
theorem d_M_replace_65 : decode cc_M_replace 65 = .ok (.invokevirtual 212, 3) := by decide +kernel
theorem d_M_replace_68 : decode cc_M_replace 68 = .ok (.iload_n 1, 1) := by decide +kernel
theorem d_M_replace_69 : decode cc_M_replace 69 = .ok (.ireturn, 1) := by decide +kernel
def J_M_replace_28 (Q : Int32 → St → Prop) (t0 : Int32) (z0 : St) : Prop := ∀ z1 : St, z1 = wI z0 31 0 t0 → (((z1.1 31 0) ≤ 0) → P_M_candidateAt (z1.2 31 30) z1 (fun (x3 : Int32) (z2 : St) => vp_in (z2.1 31 21) 8 ∧ ∀ z4 : St, z4 = wI z2 44 (z2.1 31 21).toNatClampNeg x3 → ∀ z5 : St, z5 = wI z4 31 21 (-1 : Int32) → P_M_used z5 (fun (z6 : St) => Q x3 z6))) ∧ ((¬ (z1.1 31 0) ≤ 0) → Q (0 : Int32) z1)
def P_M_replace (z0 : St) (Q : Int32 → St → Prop) : Prop := (((z0.1 31 19) = 0) → J_M_replace_28 Q (1 : Int32) z0) ∧ ((¬ (z0.1 31 19) = 0) → (((z0.1 31 21) = (-1 : Int32)) → J_M_replace_28 Q (1 : Int32) z0) ∧ ((¬ (z0.1 31 21) = (-1 : Int32)) → ((¬ (z0.1 31 29) = 0) → J_M_replace_28 Q (0 : Int32) z0) ∧ (((z0.1 31 29) = 0) → J_M_replace_28 Q (1 : Int32) z0)))
set_option maxHeartbeats 4000000 in
set_option maxRecDepth 100000 in
theorem wJ_M_replace_28 {Q : Int32 → St → Prop} (E : En p l s m meth c args cc_M_replace 2 R_M (some .int) G)
    (t0 : Int32) (z0 : St) (ls : Array Slot) (H : Heap) (locs : List Loc) (hP : J_M_replace_28 Q t0 z0) (hl : lv_has ls 2 [(0, .ref (ha G 31))]) (hW : Wd G z0 s.heap H locs) : W p l e rm_M_replace s m args below meth c H locs 0 0 (MQ below (QiR Q G) args s 0 0 (fr G)) (F0 m 28 ls [.int t0, .ref (ha G 31)]) := by
  obtain ⟨hx, hb, hml, hown, hr, hlk, hex, hE⟩ := id E
  refine ypf_31_0 hx hb hown hE hW (lk_M_70 hE) d_M_replace_28 (fun z1 H locs e_z1 hW => ?_)
  have hP := hP z1 e_z1
  refine lv_aload_n hx hb d_M_replace_31 rfl (lv_at hl 0 rfl) ?_
  refine ygf_31_0 hx hb hown hE hW (lk_M_70 hE) d_M_replace_32 ?_
  refine lv_if_le (tgt := 40) hx hb d_M_replace_35 rfl (fun hc => ?_) (fun hc => ?_)
  · have hP := hP.1 hc
    refine lv_aload_n hx hb d_M_replace_40 rfl (lv_at hl 0 rfl) ?_
    refine lv_aload_n hx hb d_M_replace_41 rfl (lv_at hl 0 rfl) ?_
    refine ygf_31_30 hx hb hown hE hW (lk_M_209 hE) d_M_replace_42 ?_
    refine yc_i (yV (As := [.long (z1.2 31 30)]) (rest := []) E (c_M_candidateAt _ _ _ hP) (cw_M_228 hE) (yrv_31 hE hW) (by decide) hW hl.1 rfl rfl rfl d_M_replace_45) hW (fun x3 z2 H locs hP hW => ?_)
    refine lv_istore_n (lv' := [(1, .int x3), (0, .ref (ha G 31))]) hx hb d_M_replace_48 rfl hl (by decide) rfl (fun ls hl => ?_)
    refine lv_aload_n hx hb d_M_replace_49 rfl (lv_at hl 1 rfl) ?_
    refine ygf_31_20 hx hb hown hE hW (lk_M_52 hE) d_M_replace_50 ?_
    refine lv_aload_n hx hb d_M_replace_53 rfl (lv_at hl 1 rfl) ?_
    refine ygf_31_21 hx hb hown hE hW (lk_M_55 hE) d_M_replace_54 ?_
    refine lv_iload_n hx hb d_M_replace_57 rfl (lv_at hl 0 rfl) ?_
    refine ys_44 hx hb hE hW hP.1 d_M_replace_58 (fun z4 H locs e_z4 hW => ?_)
    have hP := hP.2
    have hP := hP z4 e_z4
    refine lv_aload_n hx hb d_M_replace_59 rfl (lv_at hl 1 rfl) ?_
    refine lv_iconst (v := -1) hx hb d_M_replace_60 (by decide) ?_
    refine ypf_31_21 hx hb hown hE hW (lk_M_55 hE) d_M_replace_61 (fun z5 H locs e_z5 hW => ?_)
    have hP := hP z5 e_z5
    refine lv_aload_n hx hb d_M_replace_64 rfl (lv_at hl 1 rfl) ?_
    refine yc_v (yV (As := []) (rest := []) E (c_M_used _ _ hP) (cw_M_212 hE) (yrv_31 hE hW) (by decide) hW hl.1 rfl rfl rfl d_M_replace_65) hW (fun z6 H locs hP hW => ?_)
    refine lv_iload_n hx hb d_M_replace_68 rfl (lv_at hl 0 rfl) ?_
    exact yr_i hx hb hr hlk hW hP d_M_replace_69
  · have hP := hP.2 hc
    refine lv_iconst (v := 0) hx hb d_M_replace_38 (by decide) ?_
    exact yr_i hx hb hr hlk hW hP d_M_replace_39
set_option maxHeartbeats 4000000 in
set_option maxRecDepth 100000 in
theorem c_M_replace {l : Launch} {G : GG} (z0 : St) (Q : Int32 → St → Prop) (hP : P_M_replace z0 Q) : Cti l y_M_replace cc_M_replace 2 (some .int) rm_M_replace G [.ref (ha G 31)] z0 Q := by
  refine Cti.op (own := R_M) (by decide) rfl (Nat.le_of_ble_eq_true rfl) (fun p e s m args below meth c ls E hl hW => ?_)
  obtain ⟨hx, hb, hml, hown, hr, hlk, hex, hE⟩ := id E
  have hl : lv_has ls 2 [(0, .ref (ha G 31))] := hl
  refine lv_aload_n hx hb d_M_replace_0 rfl (lv_at hl 0 rfl) ?_
  refine lv_aload_n hx hb d_M_replace_1 rfl (lv_at hl 0 rfl) ?_
  refine ygf_31_19 hx hb hown hE hW (lk_M_100 hE) d_M_replace_2 ?_
  refine lv_if_eq (tgt := 23) hx hb d_M_replace_5 rfl (fun hc => ?_) (fun hc => ?_)
  · have hP := hP.1 hc
    refine lv_iconst (v := 1) hx hb d_M_replace_23 (by decide) ?_
    refine lv_goto (tgt := 28) hx hb d_M_replace_24 rfl ?_
    exact wJ_M_replace_28 E _ _ _ _ _ hP hl hW
  · have hP := hP.2 hc
    refine lv_aload_n hx hb d_M_replace_8 rfl (lv_at hl 0 rfl) ?_
    refine ygf_31_21 hx hb hown hE hW (lk_M_55 hE) d_M_replace_9 ?_
    refine lv_iconst (v := -1) hx hb d_M_replace_12 (by decide) ?_
    refine lv_icmp_eq (tgt := 23) hx hb d_M_replace_13 rfl (fun hc => ?_) (fun hc => ?_)
    · have hP := hP.1 hc
      refine lv_iconst (v := 1) hx hb d_M_replace_23 (by decide) ?_
      refine lv_goto (tgt := 28) hx hb d_M_replace_24 rfl ?_
      exact wJ_M_replace_28 E _ _ _ _ _ hP hl hW
    · have hP := hP.2 hc
      refine lv_aload_n hx hb d_M_replace_16 rfl (lv_at hl 0 rfl) ?_
      refine ygf_31_29 hx hb hown hE hW (lk_M_90 hE) d_M_replace_17 ?_
      refine lv_if_ne (tgt := 27) hx hb d_M_replace_20 rfl (fun hc => ?_) (fun hc => ?_)
      · have hP := hP.1 hc
        refine lv_iconst (v := 0) hx hb d_M_replace_27 (by decide) ?_
        exact wJ_M_replace_28 E _ _ _ _ _ hP hl hW
      · have hP := hP.2 hc
        refine lv_iconst (v := 1) hx hb d_M_replace_23 (by decide) ?_
        refine lv_goto (tgt := 28) hx hb d_M_replace_24 rfl ?_
        exact wJ_M_replace_28 E _ _ _ _ _ hP hl hW
theorem d_M_breach_0 : decode cc_M_breach 0 = .ok (.aload_n 0, 1) := by decide +kernel
theorem d_M_breach_1 : decode cc_M_breach 1 = .ok (.aload_n 0, 1) := by decide +kernel
theorem d_M_breach_2 : decode cc_M_breach 2 = .ok (.getfield 100, 3) := by decide +kernel
theorem d_M_breach_5 : decode cc_M_breach 5 = .ok (.ifCond .eq 7, 3) := by decide +kernel
theorem d_M_breach_8 : decode cc_M_breach 8 = .ok (.iconst 0, 1) := by decide +kernel
theorem d_M_breach_9 : decode cc_M_breach 9 = .ok (.goto 4, 3) := by decide +kernel
theorem d_M_breach_12 : decode cc_M_breach 12 = .ok (.iconst 1, 1) := by decide +kernel
theorem d_M_breach_13 : decode cc_M_breach 13 = .ok (.putfield 70, 3) := by decide +kernel
theorem d_M_breach_16 : decode cc_M_breach 16 = .ok (.aload_n 0, 1) := by decide +kernel
theorem d_M_breach_17 : decode cc_M_breach 17 = .ok (.getfield 70, 3) := by decide +kernel
theorem d_M_breach_20 : decode cc_M_breach 20 = .ok (.ifCond .le 7, 3) := by decide +kernel
theorem d_M_breach_23 : decode cc_M_breach 23 = .ok (.iconst 0, 1) := by decide +kernel
theorem d_M_breach_24 : decode cc_M_breach 24 = .ok (.goto 8, 3) := by decide +kernel
theorem d_M_breach_27 : decode cc_M_breach 27 = .ok (.aload_n 0, 1) := by decide +kernel
theorem d_M_breach_28 : decode cc_M_breach 28 = .ok (.iconst (-1), 1) := by decide +kernel
theorem d_M_breach_29 : decode cc_M_breach 29 = .ok (.invokevirtual 218, 3) := by decide +kernel
theorem d_M_breach_32 : decode cc_M_breach 32 = .ok (.ireturn, 1) := by decide +kernel
def J_M_breach_13 (Q : Int32 → St → Prop) (t0 : Int32) (z0 : St) : Prop := ∀ z1 : St, z1 = wI z0 31 0 t0 → (((z1.1 31 0) ≤ 0) → P_M_breachWith (-1 : Int32) z1 (fun (x3 : Int32) (z2 : St) => Q x3 z2)) ∧ ((¬ (z1.1 31 0) ≤ 0) → Q (0 : Int32) z1)
def P_M_breach (z0 : St) (Q : Int32 → St → Prop) : Prop := (((z0.1 31 19) = 0) → J_M_breach_13 Q (1 : Int32) z0) ∧ ((¬ (z0.1 31 19) = 0) → J_M_breach_13 Q (0 : Int32) z0)
set_option maxHeartbeats 4000000 in
set_option maxRecDepth 100000 in
theorem wJ_M_breach_13 {Q : Int32 → St → Prop} (E : En p l s m meth c args cc_M_breach 1 R_M (some .int) G)
    (t0 : Int32) (z0 : St) (ls : Array Slot) (H : Heap) (locs : List Loc) (hP : J_M_breach_13 Q t0 z0) (hl : lv_has ls 1 [(0, .ref (ha G 31))]) (hW : Wd G z0 s.heap H locs) : W p l e rm_M_breach s m args below meth c H locs 0 0 (MQ below (QiR Q G) args s 0 0 (fr G)) (F0 m 13 ls [.int t0, .ref (ha G 31)]) := by
  obtain ⟨hx, hb, hml, hown, hr, hlk, hex, hE⟩ := id E
  refine ypf_31_0 hx hb hown hE hW (lk_M_70 hE) d_M_breach_13 (fun z1 H locs e_z1 hW => ?_)
  have hP := hP z1 e_z1
  refine lv_aload_n hx hb d_M_breach_16 rfl (lv_at hl 0 rfl) ?_
  refine ygf_31_0 hx hb hown hE hW (lk_M_70 hE) d_M_breach_17 ?_
  refine lv_if_le (tgt := 27) hx hb d_M_breach_20 rfl (fun hc => ?_) (fun hc => ?_)
  · have hP := hP.1 hc
    refine lv_aload_n hx hb d_M_breach_27 rfl (lv_at hl 0 rfl) ?_
    refine lv_iconst (v := -1) hx hb d_M_breach_28 (by decide) ?_
    refine yc_i (yV (As := [.int (-1 : Int32)]) (rest := []) E (c_M_breachWith _ _ _ hP) (cw_M_218 hE) (yrv_31 hE hW) (by decide) hW hl.1 rfl rfl rfl d_M_breach_29) hW (fun x3 z2 H locs hP hW => ?_)
    exact yr_i hx hb hr hlk hW hP d_M_breach_32
  · have hP := hP.2 hc
    refine lv_iconst (v := 0) hx hb d_M_breach_23 (by decide) ?_
    refine lv_goto (tgt := 32) hx hb d_M_breach_24 rfl ?_
    exact yr_i hx hb hr hlk hW hP d_M_breach_32
set_option maxHeartbeats 4000000 in
set_option maxRecDepth 100000 in
theorem c_M_breach {l : Launch} {G : GG} (z0 : St) (Q : Int32 → St → Prop) (hP : P_M_breach z0 Q) : Cti l y_M_breach cc_M_breach 1 (some .int) rm_M_breach G [.ref (ha G 31)] z0 Q := by
  refine Cti.op (own := R_M) (by decide) rfl (Nat.le_of_ble_eq_true rfl) (fun p e s m args below meth c ls E hl hW => ?_)
  obtain ⟨hx, hb, hml, hown, hr, hlk, hex, hE⟩ := id E
  have hl : lv_has ls 1 [(0, .ref (ha G 31))] := hl
  refine lv_aload_n hx hb d_M_breach_0 rfl (lv_at hl 0 rfl) ?_
  refine lv_aload_n hx hb d_M_breach_1 rfl (lv_at hl 0 rfl) ?_
  refine ygf_31_19 hx hb hown hE hW (lk_M_100 hE) d_M_breach_2 ?_
  refine lv_if_eq (tgt := 12) hx hb d_M_breach_5 rfl (fun hc => ?_) (fun hc => ?_)
  · have hP := hP.1 hc
    refine lv_iconst (v := 1) hx hb d_M_breach_12 (by decide) ?_
    exact wJ_M_breach_13 E _ _ _ _ _ hP hl hW
  · have hP := hP.2 hc
    refine lv_iconst (v := 0) hx hb d_M_breach_8 (by decide) ?_
    refine lv_goto (tgt := 13) hx hb d_M_breach_9 rfl ?_
    exact wJ_M_breach_13 E _ _ _ _ _ hP hl hW
theorem d_M_reset_0 : decode cc_M_reset 0 = .ok (.aload_n 0, 1) := by decide +kernel
theorem d_M_reset_1 : decode cc_M_reset 1 = .ok (.iconst 0, 1) := by decide +kernel
theorem d_M_reset_2 : decode cc_M_reset 2 = .ok (.putfield 70, 3) := by decide +kernel
theorem d_M_reset_5 : decode cc_M_reset 5 = .ok (.aload_n 0, 1) := by decide +kernel
theorem d_M_reset_6 : decode cc_M_reset 6 = .ok (.iconst 0, 1) := by decide +kernel
theorem d_M_reset_7 : decode cc_M_reset 7 = .ok (.putfield 76, 3) := by decide +kernel
theorem d_M_reset_10 : decode cc_M_reset 10 = .ok (.aload_n 0, 1) := by decide +kernel
theorem d_M_reset_11 : decode cc_M_reset 11 = .ok (.iconst 1, 1) := by decide +kernel
theorem d_M_reset_12 : decode cc_M_reset 12 = .ok (.putfield 26, 3) := by decide +kernel
theorem d_M_reset_15 : decode cc_M_reset 15 = .ok (.aload_n 0, 1) := by decide +kernel
theorem d_M_reset_16 : decode cc_M_reset 16 = .ok (.iconst 0, 1) := by decide +kernel
theorem d_M_reset_17 : decode cc_M_reset 17 = .ok (.putfield 100, 3) := by decide +kernel
theorem d_M_reset_20 : decode cc_M_reset 20 = .ok (.aload_n 0, 1) := by decide +kernel
theorem d_M_reset_21 : decode cc_M_reset 21 = .ok (.iconst (-1), 1) := by decide +kernel
theorem d_M_reset_22 : decode cc_M_reset 22 = .ok (.putfield 55, 3) := by decide +kernel
theorem d_M_reset_25 : decode cc_M_reset 25 = .ok (.iconst 0, 1) := by decide +kernel
theorem d_M_reset_26 : decode cc_M_reset 26 = .ok (.istore_n 1, 1) := by decide +kernel
theorem d_M_reset_27 : decode cc_M_reset 27 = .ok (.iload_n 1, 1) := by decide +kernel
theorem d_M_reset_28 : decode cc_M_reset 28 = .ok (.iconst 3, 1) := by decide +kernel
theorem d_M_reset_29 : decode cc_M_reset 29 = .ok (.if_icmp .ge 16, 3) := by decide +kernel
theorem d_M_reset_32 : decode cc_M_reset 32 = .ok (.aload_n 0, 1) := by decide +kernel
theorem d_M_reset_33 : decode cc_M_reset 33 = .ok (.getfield 17, 3) := by decide +kernel
theorem d_M_reset_36 : decode cc_M_reset 36 = .ok (.iload_n 1, 1) := by decide +kernel
theorem d_M_reset_37 : decode cc_M_reset 37 = .ok (.iconst 1, 1) := by decide +kernel
theorem d_M_reset_38 : decode cc_M_reset 38 = .ok (.iastore, 1) := by decide +kernel
theorem d_M_reset_39 : decode cc_M_reset 39 = .ok (.iinc 1 1, 3) := by decide +kernel
theorem d_M_reset_42 : decode cc_M_reset 42 = .ok (.goto (-15), 3) := by decide +kernel
theorem d_M_reset_45 : decode cc_M_reset 45 = .ok (.iconst 0, 1) := by decide +kernel
theorem d_M_reset_46 : decode cc_M_reset 46 = .ok (.istore_n 1, 1) := by decide +kernel
theorem d_M_reset_47 : decode cc_M_reset 47 = .ok (.iload_n 1, 1) := by decide +kernel
theorem d_M_reset_48 : decode cc_M_reset 48 = .ok (.bipush 12, 2) := by decide +kernel
theorem d_M_reset_50 : decode cc_M_reset 50 = .ok (.if_icmp .ge 24, 3) := by decide +kernel
theorem d_M_reset_53 : decode cc_M_reset 53 = .ok (.aload_n 0, 1) := by decide +kernel
theorem d_M_reset_54 : decode cc_M_reset 54 = .ok (.getfield 20, 3) := by decide +kernel
theorem d_M_reset_57 : decode cc_M_reset 57 = .ok (.iload_n 1, 1) := by decide +kernel
theorem d_M_reset_58 : decode cc_M_reset 58 = .ok (.iconst 0, 1) := by decide +kernel
theorem d_M_reset_59 : decode cc_M_reset 59 = .ok (.iastore, 1) := by decide +kernel
theorem d_M_reset_60 : decode cc_M_reset 60 = .ok (.aload_n 0, 1) := by decide +kernel
theorem d_M_reset_61 : decode cc_M_reset 61 = .ok (.getfield 23, 3) := by decide +kernel
theorem d_M_reset_64 : decode cc_M_reset 64 = .ok (.iload_n 1, 1) := by decide +kernel
theorem d_M_reset_65 : decode cc_M_reset 65 = .ok (.bipush 8, 2) := by decide +kernel
theorem d_M_reset_67 : decode cc_M_reset 67 = .ok (.iastore, 1) := by decide +kernel
theorem d_M_reset_68 : decode cc_M_reset 68 = .ok (.iinc 1 1, 3) := by decide +kernel
theorem d_M_reset_71 : decode cc_M_reset 71 = .ok (.goto (-24), 3) := by decide +kernel
theorem d_M_reset_74 : decode cc_M_reset 74 = .ok (.iconst 0, 1) := by decide +kernel
theorem d_M_reset_75 : decode cc_M_reset 75 = .ok (.istore_n 1, 1) := by decide +kernel
theorem d_M_reset_76 : decode cc_M_reset 76 = .ok (.iload_n 1, 1) := by decide +kernel
theorem d_M_reset_77 : decode cc_M_reset 77 = .ok (.bipush 40, 2) := by decide +kernel
theorem d_M_reset_79 : decode cc_M_reset 79 = .ok (.if_icmp .ge 23, 3) := by decide +kernel
theorem d_M_reset_82 : decode cc_M_reset 82 = .ok (.aload_n 0, 1) := by decide +kernel
theorem d_M_reset_83 : decode cc_M_reset 83 = .ok (.getfield 13, 3) := by decide +kernel
theorem d_M_reset_86 : decode cc_M_reset 86 = .ok (.iload_n 1, 1) := by decide +kernel
theorem d_M_reset_87 : decode cc_M_reset 87 = .ok (.iconst 0, 1) := by decide +kernel
theorem d_M_reset_88 : decode cc_M_reset 88 = .ok (.bastore, 1) := by decide +kernel
theorem d_M_reset_89 : decode cc_M_reset 89 = .ok (.aload_n 0, 1) := by decide +kernel
theorem d_M_reset_90 : decode cc_M_reset 90 = .ok (.getfield 58, 3) := by decide +kernel
theorem d_M_reset_93 : decode cc_M_reset 93 = .ok (.iload_n 1, 1) := by decide +kernel
theorem d_M_reset_94 : decode cc_M_reset 94 = .ok (.iconst 0, 1) := by decide +kernel
theorem d_M_reset_95 : decode cc_M_reset 95 = .ok (.bastore, 1) := by decide +kernel
theorem d_M_reset_96 : decode cc_M_reset 96 = .ok (.iinc 1 1, 3) := by decide +kernel
theorem d_M_reset_99 : decode cc_M_reset 99 = .ok (.goto (-23), 3) := by decide +kernel
theorem d_M_reset_102 : decode cc_M_reset 102 = .ok (.aload_n 0, 1) := by decide +kernel
theorem d_M_reset_103 : decode cc_M_reset 103 = .ok (.invokevirtual 103, 3) := by decide +kernel
theorem d_M_reset_106 : decode cc_M_reset 106 = .ok (.return_, 1) := by decide +kernel
def L_M_reset_27 (K45 : St → Prop) (Q : St → Prop) : Nat → Int32 → St → Prop
  | 0, _, _ => False
  | n + 1, v1, z0 => (((3 : Int32) ≤ v1) → K45 z0) ∧ ((¬ (3 : Int32) ≤ v1) → vp_in v1 3 ∧ ∀ z6 : St, z6 = wI z0 34 v1.toNatClampNeg (1 : Int32) → ∀ x7 : Int32, x7 = v1 + 1 → L_M_reset_27 K45 Q n x7 z6)
def L_M_reset_47 (K74 : St → Prop) (Q : St → Prop) : Nat → Int32 → St → Prop
  | 0, _, _ => False
  | n + 1, v1, z0 => (((12 : Int32) ≤ v1) → K74 z0) ∧ ((¬ (12 : Int32) ≤ v1) → vp_in v1 12 ∧ ∀ z9 : St, z9 = wI z0 35 v1.toNatClampNeg (0 : Int32) → vp_in v1 12 ∧ ∀ z10 : St, z10 = wI z9 36 v1.toNatClampNeg (8 : Int32) → ∀ x11 : Int32, x11 = v1 + 1 → L_M_reset_47 K74 Q n x11 z10)
def L_M_reset_76 (K102 : St → Prop) (Q : St → Prop) : Nat → Int32 → St → Prop
  | 0, _, _ => False
  | n + 1, v1, z0 => (((40 : Int32) ≤ v1) → K102 z0) ∧ ((¬ (40 : Int32) ≤ v1) → vp_in v1 40 ∧ ∀ z13 : St, z13 = wI z0 33 v1.toNatClampNeg (0 : Int32) → vp_in v1 40 ∧ ∀ z14 : St, z14 = wI z13 45 v1.toNatClampNeg (0 : Int32) → ∀ x15 : Int32, x15 = v1 + 1 → L_M_reset_76 K102 Q n x15 z14)
def P_M_reset (z0 : St) (Q : St → Prop) : Prop := ∀ z1 : St, z1 = wI z0 31 0 (0 : Int32) → ∀ z2 : St, z2 = wI z1 31 1 (0 : Int32) → ∀ z3 : St, z3 = wI z2 31 7 (1 : Int32) → ∀ z4 : St, z4 = wI z3 31 19 (0 : Int32) → ∀ z5 : St, z5 = wI z4 31 21 (-1 : Int32) → ∃ k27 : Nat, L_M_reset_27 (fun (z8 : St) => ∃ k47 : Nat, L_M_reset_47 (fun (z12 : St) => ∃ k76 : Nat, L_M_reset_76 (fun (z16 : St) => P_M_changed z16 (fun (z17 : St) => Q z17)) Q k76 (0 : Int32) z12) Q k47 (0 : Int32) z8) Q k27 (0 : Int32) z5
set_option maxHeartbeats 4000000 in
set_option maxRecDepth 100000 in
theorem wL_M_reset_27 {K45 : St → Prop} {Q : St → Prop} (E : En p l s m meth c args cc_M_reset 2 R_M none G)
    (hK45 : ∀ (z0 : St) (ls : Array Slot) (H : Heap) (locs : List Loc), K45 z0 → lv_has ls 2 [(0, .ref (ha G 31))] → Wd G z0 s.heap H locs → W p l e rm_M_reset s m args below meth c H locs 0 0 (MQ below (QvR Q G) args s 0 0 (fr G)) (F0 m 45 ls [])) :
    ∀ (n : Nat) (v1 : Int32) (z0 : St) (ls : Array Slot) (H : Heap) (locs : List Loc), L_M_reset_27 K45 Q n v1 z0 → lv_has ls 2 [(0, .ref (ha G 31)), (1, .int v1)] → Wd G z0 s.heap H locs → W p l e rm_M_reset s m args below meth c H locs 0 0 (MQ below (QvR Q G) args s 0 0 (fr G)) (F0 m 27 ls []) := by
  obtain ⟨hx, hb, hml, hown, hr, hlk, hex, hE⟩ := id E
  intro n
  induction n with
  | zero => exact fun _ _ _ _ _ hP _ _ => hP.elim
  | succ n ih =>
    intro v1 z0 ls H locs hP hl hW
    refine lv_iload_n hx hb d_M_reset_27 rfl (lv_at hl 1 rfl) ?_
    refine lv_iconst (v := 3) hx hb d_M_reset_28 (by decide) ?_
    refine lv_icmp_ge (tgt := 45) hx hb d_M_reset_29 rfl (fun hc => ?_) (fun hc => ?_)
    · have hP := hP.1 hc
      exact hK45 _ _ _ _ hP (lv_sub hl [0] rfl) hW
    · have hP := hP.2 hc
      refine lv_aload_n hx hb d_M_reset_32 rfl (lv_at hl 0 rfl) ?_
      refine ygf_31_4 hx hb hown hE hW (lk_M_17 hE) d_M_reset_33 ?_
      refine lv_iload_n hx hb d_M_reset_36 rfl (lv_at hl 1 rfl) ?_
      refine lv_iconst (v := 1) hx hb d_M_reset_37 (by decide) ?_
      refine ys_34 hx hb hE hW hP.1 d_M_reset_38 (fun z6 H locs e_z6 hW => ?_)
      have hP := hP.2
      have hP := hP z6 e_z6
      obtain ⟨x7, e_x7⟩ : ∃ z : Int32, z = v1 + 1 := ⟨_, rfl⟩
      have hP := hP x7 e_x7
      refine lv_iinc (k := 1) (lv' := [(1, .int x7), (0, .ref (ha G 31))]) hx hb d_M_reset_39 hl rfl (ii_p1 e_x7) (by decide) rfl (fun ls hl => ?_)
      refine lv_goto (tgt := 27) hx hb d_M_reset_42 rfl ?_
      exact ih _ _ _ _ _ hP (lv_sub hl [1, 0] rfl) hW
set_option maxHeartbeats 4000000 in
set_option maxRecDepth 100000 in
theorem wL_M_reset_47 {K74 : St → Prop} {Q : St → Prop} (E : En p l s m meth c args cc_M_reset 2 R_M none G)
    (hK74 : ∀ (z0 : St) (ls : Array Slot) (H : Heap) (locs : List Loc), K74 z0 → lv_has ls 2 [(0, .ref (ha G 31))] → Wd G z0 s.heap H locs → W p l e rm_M_reset s m args below meth c H locs 0 0 (MQ below (QvR Q G) args s 0 0 (fr G)) (F0 m 74 ls [])) :
    ∀ (n : Nat) (v1 : Int32) (z0 : St) (ls : Array Slot) (H : Heap) (locs : List Loc), L_M_reset_47 K74 Q n v1 z0 → lv_has ls 2 [(0, .ref (ha G 31)), (1, .int v1)] → Wd G z0 s.heap H locs → W p l e rm_M_reset s m args below meth c H locs 0 0 (MQ below (QvR Q G) args s 0 0 (fr G)) (F0 m 47 ls []) := by
  obtain ⟨hx, hb, hml, hown, hr, hlk, hex, hE⟩ := id E
  intro n
  induction n with
  | zero => exact fun _ _ _ _ _ hP _ _ => hP.elim
  | succ n ih =>
    intro v1 z0 ls H locs hP hl hW
    refine lv_iload_n hx hb d_M_reset_47 rfl (lv_at hl 1 rfl) ?_
    refine lv_bipush (v := 12) hx hb d_M_reset_48 (by decide) ?_
    refine lv_icmp_ge (tgt := 74) hx hb d_M_reset_50 rfl (fun hc => ?_) (fun hc => ?_)
    · have hP := hP.1 hc
      exact hK74 _ _ _ _ hP (lv_sub hl [0] rfl) hW
    · have hP := hP.2 hc
      refine lv_aload_n hx hb d_M_reset_53 rfl (lv_at hl 0 rfl) ?_
      refine ygf_31_5 hx hb hown hE hW (lk_M_20 hE) d_M_reset_54 ?_
      refine lv_iload_n hx hb d_M_reset_57 rfl (lv_at hl 1 rfl) ?_
      refine lv_iconst (v := 0) hx hb d_M_reset_58 (by decide) ?_
      refine ys_35 hx hb hE hW hP.1 d_M_reset_59 (fun z9 H locs e_z9 hW => ?_)
      have hP := hP.2
      have hP := hP z9 e_z9
      refine lv_aload_n hx hb d_M_reset_60 rfl (lv_at hl 0 rfl) ?_
      refine ygf_31_6 hx hb hown hE hW (lk_M_23 hE) d_M_reset_61 ?_
      refine lv_iload_n hx hb d_M_reset_64 rfl (lv_at hl 1 rfl) ?_
      refine lv_bipush (v := 8) hx hb d_M_reset_65 (by decide) ?_
      refine ys_36 hx hb hE hW hP.1 d_M_reset_67 (fun z10 H locs e_z10 hW => ?_)
      have hP := hP.2
      have hP := hP z10 e_z10
      obtain ⟨x11, e_x11⟩ : ∃ z : Int32, z = v1 + 1 := ⟨_, rfl⟩
      have hP := hP x11 e_x11
      refine lv_iinc (k := 1) (lv' := [(1, .int x11), (0, .ref (ha G 31))]) hx hb d_M_reset_68 hl rfl (ii_p1 e_x11) (by decide) rfl (fun ls hl => ?_)
      refine lv_goto (tgt := 47) hx hb d_M_reset_71 rfl ?_
      exact ih _ _ _ _ _ hP (lv_sub hl [1, 0] rfl) hW
set_option maxHeartbeats 4000000 in
set_option maxRecDepth 100000 in
theorem wL_M_reset_76 {K102 : St → Prop} {Q : St → Prop} (E : En p l s m meth c args cc_M_reset 2 R_M none G)
    (hK102 : ∀ (z0 : St) (ls : Array Slot) (H : Heap) (locs : List Loc), K102 z0 → lv_has ls 2 [(0, .ref (ha G 31))] → Wd G z0 s.heap H locs → W p l e rm_M_reset s m args below meth c H locs 0 0 (MQ below (QvR Q G) args s 0 0 (fr G)) (F0 m 102 ls [])) :
    ∀ (n : Nat) (v1 : Int32) (z0 : St) (ls : Array Slot) (H : Heap) (locs : List Loc), L_M_reset_76 K102 Q n v1 z0 → lv_has ls 2 [(0, .ref (ha G 31)), (1, .int v1)] → Wd G z0 s.heap H locs → W p l e rm_M_reset s m args below meth c H locs 0 0 (MQ below (QvR Q G) args s 0 0 (fr G)) (F0 m 76 ls []) := by
  obtain ⟨hx, hb, hml, hown, hr, hlk, hex, hE⟩ := id E
  intro n
  induction n with
  | zero => exact fun _ _ _ _ _ hP _ _ => hP.elim
  | succ n ih =>
    intro v1 z0 ls H locs hP hl hW
    refine lv_iload_n hx hb d_M_reset_76 rfl (lv_at hl 1 rfl) ?_
    refine lv_bipush (v := 40) hx hb d_M_reset_77 (by decide) ?_
    refine lv_icmp_ge (tgt := 102) hx hb d_M_reset_79 rfl (fun hc => ?_) (fun hc => ?_)
    · have hP := hP.1 hc
      exact hK102 _ _ _ _ hP (lv_sub hl [0] rfl) hW
    · have hP := hP.2 hc
      refine lv_aload_n hx hb d_M_reset_82 rfl (lv_at hl 0 rfl) ?_
      refine ygf_31_3 hx hb hown hE hW (lk_M_13 hE) d_M_reset_83 ?_
      refine lv_iload_n hx hb d_M_reset_86 rfl (lv_at hl 1 rfl) ?_
      refine lv_iconst (v := 0) hx hb d_M_reset_87 (by decide) ?_
      refine ys_33 hx hb hE hW zb_0 hP.1 d_M_reset_88 (fun z13 H locs e_z13 hW => ?_)
      have hP := hP.2
      have hP := hP z13 e_z13
      refine lv_aload_n hx hb d_M_reset_89 rfl (lv_at hl 0 rfl) ?_
      refine ygf_31_22 hx hb hown hE hW (lk_M_58 hE) d_M_reset_90 ?_
      refine lv_iload_n hx hb d_M_reset_93 rfl (lv_at hl 1 rfl) ?_
      refine lv_iconst (v := 0) hx hb d_M_reset_94 (by decide) ?_
      refine ys_45 hx hb hE hW zb_0 hP.1 d_M_reset_95 (fun z14 H locs e_z14 hW => ?_)
      have hP := hP.2
      have hP := hP z14 e_z14
      obtain ⟨x15, e_x15⟩ : ∃ z : Int32, z = v1 + 1 := ⟨_, rfl⟩
      have hP := hP x15 e_x15
      refine lv_iinc (k := 1) (lv' := [(1, .int x15), (0, .ref (ha G 31))]) hx hb d_M_reset_96 hl rfl (ii_p1 e_x15) (by decide) rfl (fun ls hl => ?_)
      refine lv_goto (tgt := 76) hx hb d_M_reset_99 rfl ?_
      exact ih _ _ _ _ _ hP (lv_sub hl [1, 0] rfl) hW
set_option maxHeartbeats 4000000 in
set_option maxRecDepth 100000 in
theorem c_M_reset {l : Launch} {G : GG} (z0 : St) (Q : St → Prop) (hP : P_M_reset z0 Q) : Ctv l y_M_reset cc_M_reset 2 none rm_M_reset G [.ref (ha G 31)] z0 Q := by
  refine Ctv.op (own := R_M) (by decide) rfl (Nat.le_of_ble_eq_true rfl) (fun p e s m args below meth c ls E hl hW => ?_)
  obtain ⟨hx, hb, hml, hown, hr, hlk, hex, hE⟩ := id E
  have hl : lv_has ls 2 [(0, .ref (ha G 31))] := hl
  refine lv_aload_n hx hb d_M_reset_0 rfl (lv_at hl 0 rfl) ?_
  refine lv_iconst (v := 0) hx hb d_M_reset_1 (by decide) ?_
  refine ypf_31_0 hx hb hown hE hW (lk_M_70 hE) d_M_reset_2 (fun z1 H locs e_z1 hW => ?_)
  have hP := hP z1 e_z1
  refine lv_aload_n hx hb d_M_reset_5 rfl (lv_at hl 0 rfl) ?_
  refine lv_iconst (v := 0) hx hb d_M_reset_6 (by decide) ?_
  refine ypf_31_1 hx hb hown hE hW (lk_M_76 hE) d_M_reset_7 (fun z2 H locs e_z2 hW => ?_)
  have hP := hP z2 e_z2
  refine lv_aload_n hx hb d_M_reset_10 rfl (lv_at hl 0 rfl) ?_
  refine lv_iconst (v := 1) hx hb d_M_reset_11 (by decide) ?_
  refine ypf_31_7 hx hb hown hE hW (lk_M_26 hE) d_M_reset_12 (fun z3 H locs e_z3 hW => ?_)
  have hP := hP z3 e_z3
  refine lv_aload_n hx hb d_M_reset_15 rfl (lv_at hl 0 rfl) ?_
  refine lv_iconst (v := 0) hx hb d_M_reset_16 (by decide) ?_
  refine ypf_31_19 hx hb hown hE hW zb_0 (lk_M_100 hE) d_M_reset_17 (fun z4 H locs e_z4 hW => ?_)
  have hP := hP z4 e_z4
  refine lv_aload_n hx hb d_M_reset_20 rfl (lv_at hl 0 rfl) ?_
  refine lv_iconst (v := -1) hx hb d_M_reset_21 (by decide) ?_
  refine ypf_31_21 hx hb hown hE hW (lk_M_55 hE) d_M_reset_22 (fun z5 H locs e_z5 hW => ?_)
  have hP := hP z5 e_z5
  refine lv_iconst (v := 0) hx hb d_M_reset_25 (by decide) ?_
  refine lv_istore_n (lv' := [(1, .int (0 : Int32)), (0, .ref (ha G 31))]) hx hb d_M_reset_26 rfl hl (by decide) rfl (fun ls hl => ?_)
  obtain ⟨n2, hP⟩ := hP
  refine wL_M_reset_27 E ?_ n2 _ _ _ _ _ hP (lv_sub hl [1, 0] rfl) hW
  · intro z8 ls H locs hP hl hW
    refine lv_iconst (v := 0) hx hb d_M_reset_45 (by decide) ?_
    refine lv_istore_n (lv' := [(1, .int (0 : Int32)), (0, .ref (ha G 31))]) hx hb d_M_reset_46 rfl hl (by decide) rfl (fun ls hl => ?_)
    obtain ⟨n2, hP⟩ := hP
    refine wL_M_reset_47 E ?_ n2 _ _ _ _ _ hP (lv_sub hl [1, 0] rfl) hW
    · intro z12 ls H locs hP hl hW
      refine lv_iconst (v := 0) hx hb d_M_reset_74 (by decide) ?_
      refine lv_istore_n (lv' := [(1, .int (0 : Int32)), (0, .ref (ha G 31))]) hx hb d_M_reset_75 rfl hl (by decide) rfl (fun ls hl => ?_)
      obtain ⟨n2, hP⟩ := hP
      refine wL_M_reset_76 E ?_ n2 _ _ _ _ _ hP (lv_sub hl [1, 0] rfl) hW
      · intro z16 ls H locs hP hl hW
        refine lv_aload_n hx hb d_M_reset_102 rfl (lv_at hl 0 rfl) ?_
        refine yc_v (yV (As := []) (rest := []) E (c_M_changed _ _ hP) (cw_M_103 hE) (yrv_31 hE hW) (by decide) hW hl.1 rfl rfl rfl d_M_reset_103) hW (fun z17 H locs hP hW => ?_)
        exact yr_v hx hb hr hlk hW hP d_M_reset_106
end Code
