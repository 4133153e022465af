/-! P_valueIn, P_highestValue, S_areDrawn, O_requireOpen, D_end, O_changed, O_trait, P_hasValue, P_codeOf, P_kindsBelow, P_isKind, P_hasRoomFor, P_insertKind, P_add, O_person, O_quotaOf, Q_set, O_quota, O_size, A_fill, T_enter, T_stateOf, T_oneMoreOf, T_field -/
section Code
variable {p : Program} {l : Launch} {e : Env} {s : State} {m : MethodId} {args : Array Value} {below : List Frame} {meth : Method} {c : Code} {G : GG}
theorem d_P_valueIn_0 : decode cc_P_valueIn 0 = .ok (.iload_n 0, 1) := by decide +kernel
theorem d_P_valueIn_1 : decode cc_P_valueIn 1 = .ok (.iconst 2, 1) := by decide +kernel
theorem d_P_valueIn_2 : decode cc_P_valueIn 2 = .ok (.iconst 2, 1) := by decide +kernel
theorem d_P_valueIn_3 : decode cc_P_valueIn 3 = .ok (.iload_n 1, 1) := by decide +kernel
theorem d_P_valueIn_4 : decode cc_P_valueIn 4 = .ok (.isub, 1) := by decide +kernel
theorem d_P_valueIn_5 : decode cc_P_valueIn 5 = .ok (.imul, 1) := by decide +kernel
theorem d_P_valueIn_6 : decode cc_P_valueIn 6 = .ok (.ishr, 1) := by decide +kernel
theorem d_P_valueIn_7 : decode cc_P_valueIn 7 = .ok (.iconst 3, 1) := by decide +kernel
theorem d_P_valueIn_8 : decode cc_P_valueIn 8 = .ok (.iand, 1) := by decide +kernel
theorem d_P_valueIn_9 : decode cc_P_valueIn 9 = .ok (.ireturn, 1) := by decide +kernel
def P_P_valueIn (a0 : Int32) (a1 : Int32) (z0 : St) (Q : Int32 → St → Prop) : Prop := Q ((a0 >>> (((2 : Int32) * ((2 : Int32) - a1)) &&& 31)) &&& (3 : Int32)) z0
set_option maxHeartbeats 4000000 in
set_option maxRecDepth 100000 in
theorem c_P_valueIn {l : Launch} {G : GG} (a0 : Int32) (a1 : Int32) (z0 : St) (Q : Int32 → St → Prop) (hP : P_P_valueIn a0 a1 z0 Q) : Cti l y_P_valueIn cc_P_valueIn 2 (some .int) rm_P_valueIn G [.int a0, .int a1] z0 Q := by
  refine Cti.op (own := R_P) (by decide) rfl (Nat.le_of_ble_eq_true rfl) (fun p e s m args below meth c ls E hl hW => ?_)
  obtain ⟨hx, hb, hml, hown, hr, hlk, hex, hE⟩ := id E
  have hl : lv_has ls 2 [(0, .int a0), (1, .int a1)] := hl
  refine lv_iload_n hx hb d_P_valueIn_0 rfl (lv_at hl 0 rfl) ?_
  refine lv_iconst (v := 2) hx hb d_P_valueIn_1 (by decide) ?_
  refine lv_iconst (v := 2) hx hb d_P_valueIn_2 (by decide) ?_
  refine lv_iload_n hx hb d_P_valueIn_3 rfl (lv_at hl 1 rfl) ?_
  refine lv_isub hx hb d_P_valueIn_4 ?_
  refine lv_imul hx hb d_P_valueIn_5 ?_
  refine lv_ishr hx hb d_P_valueIn_6 ?_
  refine lv_iconst (v := 3) hx hb d_P_valueIn_7 (by decide) ?_
  refine lv_iand hx hb d_P_valueIn_8 ?_
  exact yr_i hx hb hr hlk hW hP d_P_valueIn_9
theorem d_P_highestValue_0 : decode cc_P_highestValue 0 = .ok (.iconst (-1), 1) := by decide +kernel
theorem d_P_highestValue_1 : decode cc_P_highestValue 1 = .ok (.istore_n 2, 1) := by decide +kernel
theorem d_P_highestValue_2 : decode cc_P_highestValue 2 = .ok (.iconst 0, 1) := by decide +kernel
theorem d_P_highestValue_3 : decode cc_P_highestValue 3 = .ok (.istore_n 3, 1) := by decide +kernel
theorem d_P_highestValue_4 : decode cc_P_highestValue 4 = .ok (.iload_n 3, 1) := by decide +kernel
theorem d_P_highestValue_5 : decode cc_P_highestValue 5 = .ok (.aload_n 0, 1) := by decide +kernel
theorem d_P_highestValue_6 : decode cc_P_highestValue 6 = .ok (.getfield 28, 3) := by decide +kernel
theorem d_P_highestValue_9 : decode cc_P_highestValue 9 = .ok (.if_icmp .ge 24, 3) := by decide +kernel
theorem d_P_highestValue_12 : decode cc_P_highestValue 12 = .ok (.iload_n 2, 1) := by decide +kernel
theorem d_P_highestValue_13 : decode cc_P_highestValue 13 = .ok (.aload_n 0, 1) := by decide +kernel
theorem d_P_highestValue_14 : decode cc_P_highestValue 14 = .ok (.getfield 18, 3) := by decide +kernel
theorem d_P_highestValue_17 : decode cc_P_highestValue 17 = .ok (.iload_n 3, 1) := by decide +kernel
theorem d_P_highestValue_18 : decode cc_P_highestValue 18 = .ok (.iaload, 1) := by decide +kernel
theorem d_P_highestValue_19 : decode cc_P_highestValue 19 = .ok (.iload_n 1, 1) := by decide +kernel
theorem d_P_highestValue_20 : decode cc_P_highestValue 20 = .ok (.invokestatic 37, 3) := by decide +kernel
theorem d_P_highestValue_23 : decode cc_P_highestValue 23 = .ok (.invokestatic 41, 3) := by decide +kernel
theorem d_P_highestValue_26 : decode cc_P_highestValue 26 = .ok (.istore_n 2, 1) := by decide +kernel
theorem d_P_highestValue_27 : decode cc_P_highestValue 27 = .ok (.iinc 3 1, 3) := by decide +kernel
theorem d_P_highestValue_30 : decode cc_P_highestValue 30 = .ok (.goto (-26), 3) := by decide +kernel
theorem d_P_highestValue_33 : decode cc_P_highestValue 33 = .ok (.iload_n 2, 1) := by decide +kernel
theorem d_P_highestValue_34 : decode cc_P_highestValue 34 = .ok (.ireturn, 1) := by decide +kernel
def L_P_highestValue_4 (Q : Int32 → St → Prop) : Nat → Int32 → Int32 → Int32 → St → Prop
  | 0, _, _, _, _ => False
  | n + 1, v1, v2, v3, z0 => (((z0.1 1 5) ≤ v3) → Q v2 z0) ∧ ((¬ (z0.1 1 5) ≤ v3) → vp_in v3 16 ∧ P_P_valueIn (z0.1 4 v3.toNatClampNeg) v1 z0 (fun (x2 : Int32) (z1 : St) => ∀ x3 : Int32, x3 = (mmaxI v2 x2) → ∀ x4 : Int32, x4 = v3 + 1 → L_P_highestValue_4 Q n v1 x3 x4 z1))
def P_P_highestValue (a1 : Int32) (z0 : St) (Q : Int32 → St → Prop) : Prop := ∃ k4 : Nat, L_P_highestValue_4 Q k4 a1 (-1 : Int32) (0 : Int32) z0
set_option maxHeartbeats 4000000 in
set_option maxRecDepth 100000 in
theorem wL_P_highestValue_4 {Q : Int32 → St → Prop} (E : En p l s m meth c args cc_P_highestValue 4 R_P (some .int) G) :
    ∀ (n : Nat) (v1 : Int32) (v2 : Int32) (v3 : Int32) (z0 : St) (ls : Array Slot) (H : Heap) (locs : List Loc), L_P_highestValue_4 Q n v1 v2 v3 z0 → lv_has ls 4 [(0, .ref (ha G 1)), (1, .int v1), (2, .int v2), (3, .int v3)] → Wd G z0 s.heap H locs → W p l e rm_P_highestValue s m args below meth c H locs 0 0 (MQ below (QiR Q G) args s 0 0 (fr G)) (F0 m 4 ls []) := by
  obtain ⟨hx, hb, hml, hown, hr, hlk, hex, hE⟩ := id E
  intro n
  induction n with
  | zero => exact fun _ _ _ _ _ _ _ hP _ _ => hP.elim
  | succ n ih =>
    intro v1 v2 v3 z0 ls H locs hP hl hW
    refine lv_iload_n hx hb d_P_highestValue_4 rfl (lv_at hl 3 rfl) ?_
    refine lv_aload_n hx hb d_P_highestValue_5 rfl (lv_at hl 0 rfl) ?_
    refine ygf_1_5 hx hb hown hE hW (lk_P_28 hE) d_P_highestValue_6 ?_
    refine lv_icmp_ge (tgt := 33) hx hb d_P_highestValue_9 rfl (fun hc => ?_) (fun hc => ?_)
    · have hP := hP.1 hc
      refine lv_iload_n hx hb d_P_highestValue_33 rfl (lv_at hl 2 rfl) ?_
      exact yr_i hx hb hr hlk hW hP d_P_highestValue_34
    · have hP := hP.2 hc
      refine lv_iload_n hx hb d_P_highestValue_12 rfl (lv_at hl 2 rfl) ?_
      refine lv_aload_n hx hb d_P_highestValue_13 rfl (lv_at hl 0 rfl) ?_
      refine ygf_1_2 hx hb hown hE hW (lk_P_18 hE) d_P_highestValue_14 ?_
      refine lv_iload_n hx hb d_P_highestValue_17 rfl (lv_at hl 3 rfl) ?_
      refine ya_4 hx hb hE hW hP.1 d_P_highestValue_18 ?_
      have hP := hP.2
      refine lv_iload_n hx hb d_P_highestValue_19 rfl (lv_at hl 1 rfl) ?_
      refine yc_i (yS (As := [.int (z0.1 4 v3.toNatClampNeg), .int v1]) (rest := [.int v2]) E (c_P_valueIn _ _ _ _ hP) (cw_P_37 hE) (by decide) hW hl.1 rfl rfl rfl d_P_highestValue_20) hW (fun x2 z1 H locs hP hW => ?_)
      refine ym_maxI (rest := []) hx hb (hml.trans hl.1.symm) hown hE (lk_P_41 hE) (by decide) rfl d_P_highestValue_23 ?_
      refine lv_topi (fun x3 e_x3 => ?_)
      have hP := hP x3 e_x3
      refine lv_istore_n (lv' := [(2, .int x3), (0, .ref (ha G 1)), (1, .int v1), (3, .int v3)]) hx hb d_P_highestValue_26 rfl hl (by decide) rfl (fun ls hl => ?_)
      obtain ⟨x4, e_x4⟩ : ∃ z : Int32, z = v3 + 1 := ⟨_, rfl⟩
      have hP := hP x4 e_x4
      refine lv_iinc (k := 3) (lv' := [(3, .int x4), (2, .int x3), (0, .ref (ha G 1)), (1, .int v1)]) hx hb d_P_highestValue_27 hl rfl (ii_p1 e_x4) (by decide) rfl (fun ls hl => ?_)
      refine lv_goto (tgt := 4) hx hb d_P_highestValue_30 rfl ?_
      exact ih _ _ _ _ _ _ _ hP (lv_sub hl [2, 3, 1, 0] rfl) hW
set_option maxHeartbeats 4000000 in
set_option maxRecDepth 100000 in
theorem c_P_highestValue {l : Launch} {G : GG} (a1 : Int32) (z0 : St) (Q : Int32 → St → Prop) (hP : P_P_highestValue a1 z0 Q) : Cti l y_P_highestValue cc_P_highestValue 4 (some .int) rm_P_highestValue G [.ref (ha G 1), .int a1] z0 Q := by
  refine Cti.op (own := R_P) (by decide) rfl (Nat.le_of_ble_eq_true rfl) (fun p e s m args below meth c ls E hl hW => ?_)
  obtain ⟨hx, hb, hml, hown, hr, hlk, hex, hE⟩ := id E
  have hl : lv_has ls 4 [(0, .ref (ha G 1)), (1, .int a1)] := hl
  refine lv_iconst (v := -1) hx hb d_P_highestValue_0 (by decide) ?_
  refine lv_istore_n (lv' := [(2, .int (-1 : Int32)), (0, .ref (ha G 1)), (1, .int a1)]) hx hb d_P_highestValue_1 rfl hl (by decide) rfl (fun ls hl => ?_)
  refine lv_iconst (v := 0) hx hb d_P_highestValue_2 (by decide) ?_
  refine lv_istore_n (lv' := [(3, .int (0 : Int32)), (2, .int (-1 : Int32)), (0, .ref (ha G 1)), (1, .int a1)]) hx hb d_P_highestValue_3 rfl hl (by decide) rfl (fun ls hl => ?_)
  obtain ⟨n2, hP⟩ := hP
  refine wL_P_highestValue_4 E n2 _ _ _ _ _ _ _ hP (lv_sub hl [2, 3, 1, 0] rfl) hW
theorem d_S_areDrawn_0 : decode cc_S_areDrawn 0 = .ok (.aload_n 0, 1) := by decide +kernel
theorem d_S_areDrawn_1 : decode cc_S_areDrawn 1 = .ok (.getfield 21, 3) := by decide +kernel
theorem d_S_areDrawn_4 : decode cc_S_areDrawn 4 = .ok (.ifCond .le 7, 3) := by decide +kernel
theorem d_S_areDrawn_7 : decode cc_S_areDrawn 7 = .ok (.iconst 1, 1) := by decide +kernel
theorem d_S_areDrawn_8 : decode cc_S_areDrawn 8 = .ok (.goto 4, 3) := by decide +kernel
theorem d_S_areDrawn_11 : decode cc_S_areDrawn 11 = .ok (.iconst 0, 1) := by decide +kernel
theorem d_S_areDrawn_12 : decode cc_S_areDrawn 12 = .ok (.ireturn, 1) := by decide +kernel
def P_S_areDrawn (z0 : St) (Q : Int32 → St → Prop) : Prop := (((z0.1 26 5) ≤ 0) → Q (0 : Int32) z0) ∧ ((¬ (z0.1 26 5) ≤ 0) → Q (1 : Int32) z0)
set_option maxHeartbeats 4000000 in
set_option maxRecDepth 100000 in
theorem c_S_areDrawn {l : Launch} {G : GG} (z0 : St) (Q : Int32 → St → Prop) (hP : P_S_areDrawn z0 Q) : Cti l y_S_areDrawn cc_S_areDrawn 1 (some .boolean) rm_S_areDrawn G [.ref (ha G 26)] z0 Q := by
  refine Cti.op (own := R_S) (by decide) rfl (Nat.le_of_ble_eq_true rfl) (fun p e s m args below meth c ls E hl hW => ?_)
  obtain ⟨hx, hb, hml, hown, hr, hlk, hex, hE⟩ := id E
  have hl : lv_has ls 1 [(0, .ref (ha G 26))] := hl
  refine lv_aload_n hx hb d_S_areDrawn_0 rfl (lv_at hl 0 rfl) ?_
  refine ygf_26_5 hx hb hown hE hW (lk_S_21 hE) d_S_areDrawn_1 ?_
  refine lv_if_le (tgt := 11) hx hb d_S_areDrawn_4 rfl (fun hc => ?_) (fun hc => ?_)
  · have hP := hP.1 hc
    refine lv_iconst (v := 0) hx hb d_S_areDrawn_11 (by decide) ?_
    exact yr_z hx hb hr hlk hW zb_0 hP d_S_areDrawn_12
  · have hP := hP.2 hc
    refine lv_iconst (v := 1) hx hb d_S_areDrawn_7 (by decide) ?_
    refine lv_goto (tgt := 12) hx hb d_S_areDrawn_8 rfl ?_
    exact yr_z hx hb hr hlk hW zb_1 hP d_S_areDrawn_12
theorem d_O_requireOpen_0 : decode cc_O_requireOpen 0 = .ok (.aload_n 0, 1) := by decide +kernel
theorem d_O_requireOpen_1 : decode cc_O_requireOpen 1 = .ok (.getfield 60, 3) := by decide +kernel
theorem d_O_requireOpen_4 : decode cc_O_requireOpen 4 = .ok (.invokevirtual 291, 3) := by decide +kernel
theorem d_O_requireOpen_7 : decode cc_O_requireOpen 7 = .ok (.ifCond .eq 14, 3) := by decide +kernel
theorem d_O_requireOpen_10 : decode cc_O_requireOpen 10 = .ok (.new 117, 3) := by decide +kernel
theorem d_O_requireOpen_13 : decode cc_O_requireOpen 13 = .ok (.dup, 1) := by decide +kernel
theorem d_O_requireOpen_14 : decode cc_O_requireOpen 14 = .ok (.ldc_w 294, 3) := by decide +kernel
theorem d_O_requireOpen_17 : decode cc_O_requireOpen 17 = .ok (.invokespecial 121, 3) := by decide +kernel
theorem d_O_requireOpen_20 : decode cc_O_requireOpen 20 = .ok (.athrow, 1) := by decide +kernel
theorem d_O_requireOpen_21 : decode cc_O_requireOpen 21 = .ok (.return_, 1) := by decide +kernel
def P_O_requireOpen (z0 : St) (Q : St → Prop) (X : Nat → St → Prop) : Prop := P_S_areDrawn z0 (fun (x2 : Int32) (z1 : St) => ((x2 = 0) → Q z1) ∧ ((¬ x2 = 0) → X 1 z1))
set_option maxHeartbeats 4000000 in
set_option maxRecDepth 100000 in
theorem c_O_requireOpen {l : Launch} {G : GG} (z0 : St) (Q : St → Prop) (X : Nat → St → Prop) (hP : P_O_requireOpen z0 Q X) : CtvX l y_O_requireOpen cc_O_requireOpen 1 none rm_O_requireOpen G [.ref (ha G 0)] z0 Q X := by
  refine CtvX.op (own := R_O) (by decide) rfl (Nat.le_of_ble_eq_true rfl) (fun p e s m args below meth c ls E hl hW => ?_)
  obtain ⟨hx, hb, hml, hown, hr, hlk, hex, hE⟩ := id E
  have hl : lv_has ls 1 [(0, .ref (ha G 0))] := hl
  refine lv_aload_n hx hb d_O_requireOpen_0 rfl (lv_at hl 0 rfl) ?_
  refine ygf_0_6 hx hb hown hE hW (lk_O_60 hE) d_O_requireOpen_1 ?_
  refine yc_i (yV (As := []) (rest := []) E (c_S_areDrawn _ _ hP) (cw_O_291 hE) (yrv_26 hE hW) (by decide) hW hl.1 rfl rfl rfl d_O_requireOpen_4) hW (fun x2 z1 H locs hP hW => ?_)
  refine lv_if_eq (tgt := 21) hx hb d_O_requireOpen_7 rfl (fun hc => ?_) (fun hc => ?_)
  · have hP := hP.1 hc
    exact yr_vX hx hb hr hlk hW hP d_O_requireOpen_21
  · have hP := hP.2 hc
    exact yt (k := 1) hx hb hown hlk hex hE hW hl.1 hml (by decide) (by decide) (fun _ h => lt_O_1_294 h) d_O_requireOpen_10 d_O_requireOpen_13 (Or.inr ⟨d_O_requireOpen_14, rfl⟩) d_O_requireOpen_17 d_O_requireOpen_20 hP (fun _ _ h1 h2 => Or.inr ⟨h1, h2⟩)
theorem d_D_end_0 : decode cc_D_end 0 = .ok (.aload_n 0, 1) := by decide +kernel
theorem d_D_end_1 : decode cc_D_end 1 = .ok (.iconst 0, 1) := by decide +kernel
theorem d_D_end_2 : decode cc_D_end 2 = .ok (.putfield 9, 3) := by decide +kernel
theorem d_D_end_5 : decode cc_D_end 5 = .ok (.aload_n 0, 1) := by decide +kernel
theorem d_D_end_6 : decode cc_D_end 6 = .ok (.iconst 0, 1) := by decide +kernel
theorem d_D_end_7 : decode cc_D_end 7 = .ok (.putfield 15, 3) := by decide +kernel
theorem d_D_end_10 : decode cc_D_end 10 = .ok (.return_, 1) := by decide +kernel
def P_D_end (z0 : St) (Q : St → Prop) : Prop := ∀ z1 : St, z1 = wI z0 25 0 (0 : Int32) → ∀ z2 : St, z2 = wI z1 25 1 (0 : Int32) → Q z2
set_option maxHeartbeats 4000000 in
set_option maxRecDepth 100000 in
theorem c_D_end {l : Launch} {G : GG} (z0 : St) (Q : St → Prop) (hP : P_D_end z0 Q) : Ctv l y_D_end cc_D_end 1 none rm_D_end G [.ref (ha G 25)] z0 Q := by
  refine Ctv.op (own := R_D) (by decide) rfl (Nat.le_of_ble_eq_true rfl) (fun p e s m args below meth c ls E hl hW => ?_)
  obtain ⟨hx, hb, hml, hown, hr, hlk, hex, hE⟩ := id E
  have hl : lv_has ls 1 [(0, .ref (ha G 25))] := hl
  refine lv_aload_n hx hb d_D_end_0 rfl (lv_at hl 0 rfl) ?_
  refine lv_iconst (v := 0) hx hb d_D_end_1 (by decide) ?_
  refine ypf_25_0 hx hb hown hE hW zb_0 (lk_D_9 hE) d_D_end_2 (fun z1 H locs e_z1 hW => ?_)
  have hP := hP z1 e_z1
  refine lv_aload_n hx hb d_D_end_5 rfl (lv_at hl 0 rfl) ?_
  refine lv_iconst (v := 0) hx hb d_D_end_6 (by decide) ?_
  refine ypf_25_1 hx hb hown hE hW zb_0 (lk_D_15 hE) d_D_end_7 (fun z2 H locs e_z2 hW => ?_)
  have hP := hP z2 e_z2
  exact yr_v hx hb hr hlk hW hP d_D_end_10
theorem d_O_changed_0 : decode cc_O_changed 0 = .ok (.aload_n 0, 1) := by decide +kernel
theorem d_O_changed_1 : decode cc_O_changed 1 = .ok (.getfield 51, 3) := by decide +kernel
theorem d_O_changed_4 : decode cc_O_changed 4 = .ok (.invokevirtual 246, 3) := by decide +kernel
theorem d_O_changed_7 : decode cc_O_changed 7 = .ok (.aload_n 0, 1) := by decide +kernel
theorem d_O_changed_8 : decode cc_O_changed 8 = .ok (.iconst 0, 1) := by decide +kernel
theorem d_O_changed_9 : decode cc_O_changed 9 = .ok (.putfield 76, 3) := by decide +kernel
theorem d_O_changed_12 : decode cc_O_changed 12 = .ok (.aload_n 0, 1) := by decide +kernel
theorem d_O_changed_13 : decode cc_O_changed 13 = .ok (.iconst 0, 1) := by decide +kernel
theorem d_O_changed_14 : decode cc_O_changed 14 = .ok (.putfield 80, 3) := by decide +kernel
theorem d_O_changed_17 : decode cc_O_changed 17 = .ok (.return_, 1) := by decide +kernel
def P_O_changed (z0 : St) (Q : St → Prop) : Prop := P_D_end z0 (fun (z1 : St) => ∀ z2 : St, z2 = wI z1 0 10 (0 : Int32) → ∀ z3 : St, z3 = wI z2 0 11 (0 : Int32) → Q z3)
set_option maxHeartbeats 4000000 in
set_option maxRecDepth 100000 in
theorem c_O_changed {l : Launch} {G : GG} (z0 : St) (Q : St → Prop) (hP : P_O_changed z0 Q) : Ctv l y_O_changed cc_O_changed 1 none rm_O_changed G [.ref (ha G 0)] z0 Q := by
  refine Ctv.op (own := R_O) (by decide) rfl (Nat.le_of_ble_eq_true rfl) (fun p e s m args below meth c ls E hl hW => ?_)
  obtain ⟨hx, hb, hml, hown, hr, hlk, hex, hE⟩ := id E
  have hl : lv_has ls 1 [(0, .ref (ha G 0))] := hl
  refine lv_aload_n hx hb d_O_changed_0 rfl (lv_at hl 0 rfl) ?_
  refine ygf_0_5 hx hb hown hE hW (lk_O_51 hE) d_O_changed_1 ?_
  refine yc_v (yV (As := []) (rest := []) E (c_D_end _ _ hP) (cw_O_246 hE) (yrv_25 hE hW) (by decide) hW hl.1 rfl rfl rfl d_O_changed_4) hW (fun z1 H locs hP hW => ?_)
  refine lv_aload_n hx hb d_O_changed_7 rfl (lv_at hl 0 rfl) ?_
  refine lv_iconst (v := 0) hx hb d_O_changed_8 (by decide) ?_
  refine ypf_0_10 hx hb hown hE hW zb_0 (lk_O_76 hE) d_O_changed_9 (fun z2 H locs e_z2 hW => ?_)
  have hP := hP z2 e_z2
  refine lv_aload_n hx hb d_O_changed_12 rfl (lv_at hl 0 rfl) ?_
  refine lv_iconst (v := 0) hx hb d_O_changed_13 (by decide) ?_
  refine ypf_0_11 hx hb hown hE hW zb_0 (lk_O_80 hE) d_O_changed_14 (fun z3 H locs e_z3 hW => ?_)
  have hP := hP z3 e_z3
  exact yr_v hx hb hr hlk hW hP d_O_changed_17
theorem d_O_trait_0 : decode cc_O_trait 0 = .ok (.iload_n 1, 1) := by decide +kernel
theorem d_O_trait_1 : decode cc_O_trait 1 = .ok (.ifCond .lt 30, 3) := by decide +kernel
theorem d_O_trait_4 : decode cc_O_trait 4 = .ok (.iload_n 1, 1) := by decide +kernel
theorem d_O_trait_5 : decode cc_O_trait 5 = .ok (.iconst 3, 1) := by decide +kernel
theorem d_O_trait_6 : decode cc_O_trait 6 = .ok (.if_icmp .ge 25, 3) := by decide +kernel
theorem d_O_trait_9 : decode cc_O_trait 9 = .ok (.iload_n 2, 1) := by decide +kernel
theorem d_O_trait_10 : decode cc_O_trait 10 = .ok (.iconst 1, 1) := by decide +kernel
theorem d_O_trait_11 : decode cc_O_trait 11 = .ok (.if_icmp .lt 20, 3) := by decide +kernel
theorem d_O_trait_14 : decode cc_O_trait 14 = .ok (.iload_n 2, 1) := by decide +kernel
theorem d_O_trait_15 : decode cc_O_trait 15 = .ok (.iconst 4, 1) := by decide +kernel
theorem d_O_trait_16 : decode cc_O_trait 16 = .ok (.if_icmp .gt 15, 3) := by decide +kernel
theorem d_O_trait_19 : decode cc_O_trait 19 = .ok (.aload_n 0, 1) := by decide +kernel
theorem d_O_trait_20 : decode cc_O_trait 20 = .ok (.getfield 12, 3) := by decide +kernel
theorem d_O_trait_23 : decode cc_O_trait 23 = .ok (.iload_n 1, 1) := by decide +kernel
theorem d_O_trait_24 : decode cc_O_trait 24 = .ok (.invokevirtual 83, 3) := by decide +kernel
theorem d_O_trait_27 : decode cc_O_trait 27 = .ok (.iload_n 2, 1) := by decide +kernel
theorem d_O_trait_28 : decode cc_O_trait 28 = .ok (.if_icmp .lt 13, 3) := by decide +kernel
theorem d_O_trait_31 : decode cc_O_trait 31 = .ok (.new 87, 3) := by decide +kernel
theorem d_O_trait_34 : decode cc_O_trait 34 = .ok (.dup, 1) := by decide +kernel
theorem d_O_trait_35 : decode cc_O_trait 35 = .ok (.ldc 89, 2) := by decide +kernel
theorem d_O_trait_37 : decode cc_O_trait 37 = .ok (.invokespecial 91, 3) := by decide +kernel
theorem d_O_trait_40 : decode cc_O_trait 40 = .ok (.athrow, 1) := by decide +kernel
theorem d_O_trait_41 : decode cc_O_trait 41 = .ok (.aload_n 0, 1) := by decide +kernel
theorem d_O_trait_42 : decode cc_O_trait 42 = .ok (.invokevirtual 94, 3) := by decide +kernel
theorem d_O_trait_45 : decode cc_O_trait 45 = .ok (.aload_n 0, 1) := by decide +kernel
theorem d_O_trait_46 : decode cc_O_trait 46 = .ok (.getfield 12, 3) := by decide +kernel
theorem d_O_trait_49 : decode cc_O_trait 49 = .ok (.getfield 97, 3) := by decide +kernel
theorem d_O_trait_52 : decode cc_O_trait 52 = .ok (.iload_n 1, 1) := by decide +kernel
theorem d_O_trait_53 : decode cc_O_trait 53 = .ok (.iload_n 2, 1) := by decide +kernel
theorem d_O_trait_54 : decode cc_O_trait 54 = .ok (.iastore, 1) := by decide +kernel
theorem d_O_trait_55 : decode cc_O_trait 55 = .ok (.aload_n 0, 1) := by decide +kernel
theorem d_O_trait_56 : decode cc_O_trait 56 = .ok (.invokevirtual 100, 3) := by decide +kernel
theorem d_O_trait_59 : decode cc_O_trait 59 = .ok (.return_, 1) := by decide +kernel
def P_O_trait (a1 : Int32) (a2 : Int32) (z0 : St) (Q : St → Prop) (X : Nat → St → Prop) : Prop := ((a1 < 0) → X 0 z0) ∧ ((¬ a1 < 0) → (((3 : Int32) ≤ a1) → X 0 z0) ∧ ((¬ (3 : Int32) ≤ a1) → ((a2 < (1 : Int32)) → X 0 z0) ∧ ((¬ a2 < (1 : Int32)) → (((4 : Int32) < a2) → X 0 z0) ∧ ((¬ (4 : Int32) < a2) → P_P_highestValue a1 z0 (fun (x2 : Int32) (z1 : St) => ((x2 < a2) → P_O_requireOpen z1 (fun (z3 : St) => vp_in a1 3 ∧ ∀ z4 : St, z4 = wI z3 2 a1.toNatClampNeg a2 → P_O_changed z4 (fun (z5 : St) => Q z5)) X) ∧ ((¬ x2 < a2) → X 0 z1))))))
set_option maxHeartbeats 4000000 in
set_option maxRecDepth 100000 in
theorem c_O_trait {l : Launch} {G : GG} (a1 : Int32) (a2 : Int32) (z0 : St) (Q : St → Prop) (X : Nat → St → Prop) (hP : P_O_trait a1 a2 z0 Q X) : CtvX l y_O_trait cc_O_trait 3 none rm_O_trait G [.ref (ha G 0), .int a1, .int a2] z0 Q X := by
  refine CtvX.op (own := R_O) (by decide) rfl (Nat.le_of_ble_eq_true rfl) (fun p e s m args below meth c ls E hl hW => ?_)
  obtain ⟨hx, hb, hml, hown, hr, hlk, hex, hE⟩ := id E
  have hl : lv_has ls 3 [(0, .ref (ha G 0)), (1, .int a1), (2, .int a2)] := hl
  refine lv_iload_n hx hb d_O_trait_0 rfl (lv_at hl 1 rfl) ?_
  refine lv_if_lt (tgt := 31) hx hb d_O_trait_1 rfl (fun hc => ?_) (fun hc => ?_)
  · have hP := hP.1 hc
    exact yt (k := 0) hx hb hown hlk hex hE hW hl.1 hml (by decide) (by decide) (fun _ h => lt_O_0_89 h) d_O_trait_31 d_O_trait_34 (Or.inl ⟨d_O_trait_35, rfl⟩) d_O_trait_37 d_O_trait_40 hP (fun _ _ h1 h2 => Or.inr ⟨h1, h2⟩)
  · have hP := hP.2 hc
    refine lv_iload_n hx hb d_O_trait_4 rfl (lv_at hl 1 rfl) ?_
    refine lv_iconst (v := 3) hx hb d_O_trait_5 (by decide) ?_
    refine lv_icmp_ge (tgt := 31) hx hb d_O_trait_6 rfl (fun hc => ?_) (fun hc => ?_)
    · have hP := hP.1 hc
      exact yt (k := 0) hx hb hown hlk hex hE hW hl.1 hml (by decide) (by decide) (fun _ h => lt_O_0_89 h) d_O_trait_31 d_O_trait_34 (Or.inl ⟨d_O_trait_35, rfl⟩) d_O_trait_37 d_O_trait_40 hP (fun _ _ h1 h2 => Or.inr ⟨h1, h2⟩)
    · have hP := hP.2 hc
      refine lv_iload_n hx hb d_O_trait_9 rfl (lv_at hl 2 rfl) ?_
      refine lv_iconst (v := 1) hx hb d_O_trait_10 (by decide) ?_
      refine lv_icmp_lt (tgt := 31) hx hb d_O_trait_11 rfl (fun hc => ?_) (fun hc => ?_)
      · have hP := hP.1 hc
        exact yt (k := 0) hx hb hown hlk hex hE hW hl.1 hml (by decide) (by decide) (fun _ h => lt_O_0_89 h) d_O_trait_31 d_O_trait_34 (Or.inl ⟨d_O_trait_35, rfl⟩) d_O_trait_37 d_O_trait_40 hP (fun _ _ h1 h2 => Or.inr ⟨h1, h2⟩)
      · have hP := hP.2 hc
        refine lv_iload_n hx hb d_O_trait_14 rfl (lv_at hl 2 rfl) ?_
        refine lv_iconst (v := 4) hx hb d_O_trait_15 (by decide) ?_
        refine lv_icmp_gt (tgt := 31) hx hb d_O_trait_16 rfl (fun hc => ?_) (fun hc => ?_)
        · have hP := hP.1 hc
          exact yt (k := 0) hx hb hown hlk hex hE hW hl.1 hml (by decide) (by decide) (fun _ h => lt_O_0_89 h) d_O_trait_31 d_O_trait_34 (Or.inl ⟨d_O_trait_35, rfl⟩) d_O_trait_37 d_O_trait_40 hP (fun _ _ h1 h2 => Or.inr ⟨h1, h2⟩)
        · have hP := hP.2 hc
          refine lv_aload_n hx hb d_O_trait_19 rfl (lv_at hl 0 rfl) ?_
          refine ygf_0_0 hx hb hown hE hW (lk_O_12 hE) d_O_trait_20 ?_
          refine lv_iload_n hx hb d_O_trait_23 rfl (lv_at hl 1 rfl) ?_
          refine yc_i (yV (As := [.int a1]) (rest := []) E (c_P_highestValue _ _ _ hP) (cw_O_83 hE) (yrv_1 hE hW) (by decide) hW hl.1 rfl rfl rfl d_O_trait_24) hW (fun x2 z1 H locs hP hW => ?_)
          refine lv_iload_n hx hb d_O_trait_27 rfl (lv_at hl 2 rfl) ?_
          refine lv_icmp_lt (tgt := 41) hx hb d_O_trait_28 rfl (fun hc => ?_) (fun hc => ?_)
          · have hP := hP.1 hc
            refine lv_aload_n hx hb d_O_trait_41 rfl (lv_at hl 0 rfl) ?_
            refine yx_v (yVX (As := []) (rest := []) E (c_O_requireOpen _ _ _ hP) (cw_O_94 hE) (yrv_0 hE hW) (by decide) hW hl.1 rfl rfl rfl d_O_trait_42) hW (fun z3 H locs hP hW => ?_) hlk hex (fun _ _ h1 h2 => Or.inr ⟨h1, h2⟩)
            refine lv_aload_n hx hb d_O_trait_45 rfl (lv_at hl 0 rfl) ?_
            refine ygf_0_0 hx hb hown hE hW (lk_O_12 hE) d_O_trait_46 ?_
            refine ygn_1_0 hx hb hown hE hW (lk_O_97 hE) d_O_trait_49 ?_
            refine lv_iload_n hx hb d_O_trait_52 rfl (lv_at hl 1 rfl) ?_
            refine lv_iload_n hx hb d_O_trait_53 rfl (lv_at hl 2 rfl) ?_
            refine ys_2 hx hb hE hW hP.1 d_O_trait_54 (fun z4 H locs e_z4 hW => ?_)
            have hP := hP.2
            have hP := hP z4 e_z4
            refine lv_aload_n hx hb d_O_trait_55 rfl (lv_at hl 0 rfl) ?_
            refine yc_v (yV (As := []) (rest := []) E (c_O_changed _ _ hP) (cw_O_100 hE) (yrv_0 hE hW) (by decide) hW hl.1 rfl rfl rfl d_O_trait_56) hW (fun z5 H locs hP hW => ?_)
            exact yr_vX hx hb hr hlk hW hP d_O_trait_59
          · have hP := hP.2 hc
            exact yt (k := 0) hx hb hown hlk hex hE hW hl.1 hml (by decide) (by decide) (fun _ h => lt_O_0_89 h) d_O_trait_31 d_O_trait_34 (Or.inl ⟨d_O_trait_35, rfl⟩) d_O_trait_37 d_O_trait_40 hP (fun _ _ h1 h2 => Or.inr ⟨h1, h2⟩)
theorem d_P_hasValue_0 : decode cc_P_hasValue 0 = .ok (.iload_n 1, 1) := by decide +kernel
theorem d_P_hasValue_1 : decode cc_P_hasValue 1 = .ok (.ifCond .lt 26, 3) := by decide +kernel
theorem d_P_hasValue_4 : decode cc_P_hasValue 4 = .ok (.iload_n 1, 1) := by decide +kernel
theorem d_P_hasValue_5 : decode cc_P_hasValue 5 = .ok (.iconst 3, 1) := by decide +kernel
theorem d_P_hasValue_6 : decode cc_P_hasValue 6 = .ok (.if_icmp .ge 21, 3) := by decide +kernel
theorem d_P_hasValue_9 : decode cc_P_hasValue 9 = .ok (.iload_n 2, 1) := by decide +kernel
theorem d_P_hasValue_10 : decode cc_P_hasValue 10 = .ok (.ifCond .lt 17, 3) := by decide +kernel
theorem d_P_hasValue_13 : decode cc_P_hasValue 13 = .ok (.iload_n 2, 1) := by decide +kernel
theorem d_P_hasValue_14 : decode cc_P_hasValue 14 = .ok (.aload_n 0, 1) := by decide +kernel
theorem d_P_hasValue_15 : decode cc_P_hasValue 15 = .ok (.getfield 9, 3) := by decide +kernel
theorem d_P_hasValue_18 : decode cc_P_hasValue 18 = .ok (.iload_n 1, 1) := by decide +kernel
theorem d_P_hasValue_19 : decode cc_P_hasValue 19 = .ok (.iaload, 1) := by decide +kernel
theorem d_P_hasValue_20 : decode cc_P_hasValue 20 = .ok (.if_icmp .ge 7, 3) := by decide +kernel
theorem d_P_hasValue_23 : decode cc_P_hasValue 23 = .ok (.iconst 1, 1) := by decide +kernel
theorem d_P_hasValue_24 : decode cc_P_hasValue 24 = .ok (.goto 4, 3) := by decide +kernel
theorem d_P_hasValue_27 : decode cc_P_hasValue 27 = .ok (.iconst 0, 1) := by decide +kernel
theorem d_P_hasValue_28 : decode cc_P_hasValue 28 = .ok (.ireturn, 1) := by decide +kernel
def P_P_hasValue (a1 : Int32) (a2 : Int32) (z0 : St) (Q : Int32 → St → Prop) : Prop := ((a1 < 0) → Q (0 : Int32) z0) ∧ ((¬ a1 < 0) → (((3 : Int32) ≤ a1) → Q (0 : Int32) z0) ∧ ((¬ (3 : Int32) ≤ a1) → ((a2 < 0) → Q (0 : Int32) z0) ∧ ((¬ a2 < 0) → vp_in a1 3 ∧ (((z0.1 2 a1.toNatClampNeg) ≤ a2) → Q (0 : Int32) z0) ∧ ((¬ (z0.1 2 a1.toNatClampNeg) ≤ a2) → Q (1 : Int32) z0))))
set_option maxHeartbeats 4000000 in
set_option maxRecDepth 100000 in
theorem c_P_hasValue {l : Launch} {G : GG} (a1 : Int32) (a2 : Int32) (z0 : St) (Q : Int32 → St → Prop) (hP : P_P_hasValue a1 a2 z0 Q) : Cti l y_P_hasValue cc_P_hasValue 3 (some .boolean) rm_P_hasValue G [.ref (ha G 1), .int a1, .int a2] z0 Q := by
  refine Cti.op (own := R_P) (by decide) rfl (Nat.le_of_ble_eq_true rfl) (fun p e s m args below meth c ls E hl hW => ?_)
  obtain ⟨hx, hb, hml, hown, hr, hlk, hex, hE⟩ := id E
  have hl : lv_has ls 3 [(0, .ref (ha G 1)), (1, .int a1), (2, .int a2)] := hl
  refine lv_iload_n hx hb d_P_hasValue_0 rfl (lv_at hl 1 rfl) ?_
  refine lv_if_lt (tgt := 27) hx hb d_P_hasValue_1 rfl (fun hc => ?_) (fun hc => ?_)
  · have hP := hP.1 hc
    refine lv_iconst (v := 0) hx hb d_P_hasValue_27 (by decide) ?_
    exact yr_z hx hb hr hlk hW zb_0 hP d_P_hasValue_28
  · have hP := hP.2 hc
    refine lv_iload_n hx hb d_P_hasValue_4 rfl (lv_at hl 1 rfl) ?_
    refine lv_iconst (v := 3) hx hb d_P_hasValue_5 (by decide) ?_
    refine lv_icmp_ge (tgt := 27) hx hb d_P_hasValue_6 rfl (fun hc => ?_) (fun hc => ?_)
    · have hP := hP.1 hc
      refine lv_iconst (v := 0) hx hb d_P_hasValue_27 (by decide) ?_
      exact yr_z hx hb hr hlk hW zb_0 hP d_P_hasValue_28
    · have hP := hP.2 hc
      refine lv_iload_n hx hb d_P_hasValue_9 rfl (lv_at hl 2 rfl) ?_
      refine lv_if_lt (tgt := 27) hx hb d_P_hasValue_10 rfl (fun hc => ?_) (fun hc => ?_)
      · have hP := hP.1 hc
        refine lv_iconst (v := 0) hx hb d_P_hasValue_27 (by decide) ?_
        exact yr_z hx hb hr hlk hW zb_0 hP d_P_hasValue_28
      · have hP := hP.2 hc
        refine lv_iload_n hx hb d_P_hasValue_13 rfl (lv_at hl 2 rfl) ?_
        refine lv_aload_n hx hb d_P_hasValue_14 rfl (lv_at hl 0 rfl) ?_
        refine ygf_1_0 hx hb hown hE hW (lk_P_9 hE) d_P_hasValue_15 ?_
        refine lv_iload_n hx hb d_P_hasValue_18 rfl (lv_at hl 1 rfl) ?_
        refine ya_2 hx hb hE hW hP.1 d_P_hasValue_19 ?_
        have hP := hP.2
        refine lv_icmp_ge (tgt := 27) hx hb d_P_hasValue_20 rfl (fun hc => ?_) (fun hc => ?_)
        · have hP := hP.1 hc
          refine lv_iconst (v := 0) hx hb d_P_hasValue_27 (by decide) ?_
          exact yr_z hx hb hr hlk hW zb_0 hP d_P_hasValue_28
        · have hP := hP.2 hc
          refine lv_iconst (v := 1) hx hb d_P_hasValue_23 (by decide) ?_
          refine lv_goto (tgt := 28) hx hb d_P_hasValue_24 rfl ?_
          exact yr_z hx hb hr hlk hW zb_1 hP d_P_hasValue_28
theorem d_P_codeOf_0 : decode cc_P_codeOf 0 = .ok (.iload_n 0, 1) := by decide +kernel
theorem d_P_codeOf_1 : decode cc_P_codeOf 1 = .ok (.iconst 2, 1) := by decide +kernel
theorem d_P_codeOf_2 : decode cc_P_codeOf 2 = .ok (.ishl, 1) := by decide +kernel
theorem d_P_codeOf_3 : decode cc_P_codeOf 3 = .ok (.iload_n 1, 1) := by decide +kernel
theorem d_P_codeOf_4 : decode cc_P_codeOf 4 = .ok (.iadd, 1) := by decide +kernel
theorem d_P_codeOf_5 : decode cc_P_codeOf 5 = .ok (.iconst 2, 1) := by decide +kernel
theorem d_P_codeOf_6 : decode cc_P_codeOf 6 = .ok (.ishl, 1) := by decide +kernel
theorem d_P_codeOf_7 : decode cc_P_codeOf 7 = .ok (.iload_n 2, 1) := by decide +kernel
theorem d_P_codeOf_8 : decode cc_P_codeOf 8 = .ok (.iadd, 1) := by decide +kernel
theorem d_P_codeOf_9 : decode cc_P_codeOf 9 = .ok (.ireturn, 1) := by decide +kernel
def P_P_codeOf (a0 : Int32) (a1 : Int32) (a2 : Int32) (z0 : St) (Q : Int32 → St → Prop) : Prop := Q ((((a0 <<< ((2 : Int32) &&& 31)) + a1) <<< ((2 : Int32) &&& 31)) + a2) z0
set_option maxHeartbeats 4000000 in
set_option maxRecDepth 100000 in
theorem c_P_codeOf {l : Launch} {G : GG} (a0 : Int32) (a1 : Int32) (a2 : Int32) (z0 : St) (Q : Int32 → St → Prop) (hP : P_P_codeOf a0 a1 a2 z0 Q) : Cti l y_P_codeOf cc_P_codeOf 3 (some .int) rm_P_codeOf G [.int a0, .int a1, .int a2] z0 Q := by
  refine Cti.op (own := R_P) (by decide) rfl (Nat.le_of_ble_eq_true rfl) (fun p e s m args below meth c ls E hl hW => ?_)
  obtain ⟨hx, hb, hml, hown, hr, hlk, hex, hE⟩ := id E
  have hl : lv_has ls 3 [(0, .int a0), (1, .int a1), (2, .int a2)] := hl
  refine lv_iload_n hx hb d_P_codeOf_0 rfl (lv_at hl 0 rfl) ?_
  refine lv_iconst (v := 2) hx hb d_P_codeOf_1 (by decide) ?_
  refine lv_ishl hx hb d_P_codeOf_2 ?_
  refine lv_iload_n hx hb d_P_codeOf_3 rfl (lv_at hl 1 rfl) ?_
  refine lv_iadd hx hb d_P_codeOf_4 ?_
  refine lv_iconst (v := 2) hx hb d_P_codeOf_5 (by decide) ?_
  refine lv_ishl hx hb d_P_codeOf_6 ?_
  refine lv_iload_n hx hb d_P_codeOf_7 rfl (lv_at hl 2 rfl) ?_
  refine lv_iadd hx hb d_P_codeOf_8 ?_
  exact yr_i hx hb hr hlk hW hP d_P_codeOf_9
theorem d_P_kindsBelow_0 : decode cc_P_kindsBelow 0 = .ok (.iconst 0, 1) := by decide +kernel
theorem d_P_kindsBelow_1 : decode cc_P_kindsBelow 1 = .ok (.istore_n 2, 1) := by decide +kernel
theorem d_P_kindsBelow_2 : decode cc_P_kindsBelow 2 = .ok (.iload_n 2, 1) := by decide +kernel
theorem d_P_kindsBelow_3 : decode cc_P_kindsBelow 3 = .ok (.aload_n 0, 1) := by decide +kernel
theorem d_P_kindsBelow_4 : decode cc_P_kindsBelow 4 = .ok (.getfield 28, 3) := by decide +kernel
theorem d_P_kindsBelow_7 : decode cc_P_kindsBelow 7 = .ok (.if_icmp .ge 19, 3) := by decide +kernel
theorem d_P_kindsBelow_10 : decode cc_P_kindsBelow 10 = .ok (.aload_n 0, 1) := by decide +kernel
theorem d_P_kindsBelow_11 : decode cc_P_kindsBelow 11 = .ok (.getfield 18, 3) := by decide +kernel
theorem d_P_kindsBelow_14 : decode cc_P_kindsBelow 14 = .ok (.iload_n 2, 1) := by decide +kernel
theorem d_P_kindsBelow_15 : decode cc_P_kindsBelow 15 = .ok (.iaload, 1) := by decide +kernel
theorem d_P_kindsBelow_16 : decode cc_P_kindsBelow 16 = .ok (.iload_n 1, 1) := by decide +kernel
theorem d_P_kindsBelow_17 : decode cc_P_kindsBelow 17 = .ok (.if_icmp .ge 9, 3) := by decide +kernel
theorem d_P_kindsBelow_20 : decode cc_P_kindsBelow 20 = .ok (.iinc 2 1, 3) := by decide +kernel
theorem d_P_kindsBelow_23 : decode cc_P_kindsBelow 23 = .ok (.goto (-21), 3) := by decide +kernel
theorem d_P_kindsBelow_26 : decode cc_P_kindsBelow 26 = .ok (.iload_n 2, 1) := by decide +kernel
theorem d_P_kindsBelow_27 : decode cc_P_kindsBelow 27 = .ok (.ireturn, 1) := by decide +kernel
def L_P_kindsBelow_2 (Q : Int32 → St → Prop) : Nat → Int32 → Int32 → St → Prop
  | 0, _, _, _ => False
  | n + 1, v1, v2, z0 => (((z0.1 1 5) ≤ v2) → Q v2 z0) ∧ ((¬ (z0.1 1 5) ≤ v2) → vp_in v2 16 ∧ ((v1 ≤ (z0.1 4 v2.toNatClampNeg)) → Q v2 z0) ∧ ((¬ v1 ≤ (z0.1 4 v2.toNatClampNeg)) → ∀ x1 : Int32, x1 = v2 + 1 → L_P_kindsBelow_2 Q n v1 x1 z0))
def P_P_kindsBelow (a1 : Int32) (z0 : St) (Q : Int32 → St → Prop) : Prop := ∃ k2 : Nat, L_P_kindsBelow_2 Q k2 a1 (0 : Int32) z0
set_option maxHeartbeats 4000000 in
set_option maxRecDepth 100000 in
theorem wL_P_kindsBelow_2 {Q : Int32 → St → Prop} (E : En p l s m meth c args cc_P_kindsBelow 3 R_P (some .int) G) :
    ∀ (n : Nat) (v1 : Int32) (v2 : Int32) (z0 : St) (ls : Array Slot) (H : Heap) (locs : List Loc), L_P_kindsBelow_2 Q n v1 v2 z0 → lv_has ls 3 [(0, .ref (ha G 1)), (1, .int v1), (2, .int v2)] → Wd G z0 s.heap H locs → W p l e rm_P_kindsBelow s m args below meth c H locs 0 0 (MQ below (QiR Q G) args s 0 0 (fr G)) (F0 m 2 ls []) := by
  obtain ⟨hx, hb, hml, hown, hr, hlk, hex, hE⟩ := id E
  intro n
  induction n with
  | zero => exact fun _ _ _ _ _ _ hP _ _ => hP.elim
  | succ n ih =>
    intro v1 v2 z0 ls H locs hP hl hW
    refine lv_iload_n hx hb d_P_kindsBelow_2 rfl (lv_at hl 2 rfl) ?_
    refine lv_aload_n hx hb d_P_kindsBelow_3 rfl (lv_at hl 0 rfl) ?_
    refine ygf_1_5 hx hb hown hE hW (lk_P_28 hE) d_P_kindsBelow_4 ?_
    refine lv_icmp_ge (tgt := 26) hx hb d_P_kindsBelow_7 rfl (fun hc => ?_) (fun hc => ?_)
    · have hP := hP.1 hc
      refine lv_iload_n hx hb d_P_kindsBelow_26 rfl (lv_at hl 2 rfl) ?_
      exact yr_i hx hb hr hlk hW hP d_P_kindsBelow_27
    · have hP := hP.2 hc
      refine lv_aload_n hx hb d_P_kindsBelow_10 rfl (lv_at hl 0 rfl) ?_
      refine ygf_1_2 hx hb hown hE hW (lk_P_18 hE) d_P_kindsBelow_11 ?_
      refine lv_iload_n hx hb d_P_kindsBelow_14 rfl (lv_at hl 2 rfl) ?_
      refine ya_4 hx hb hE hW hP.1 d_P_kindsBelow_15 ?_
      have hP := hP.2
      refine lv_iload_n hx hb d_P_kindsBelow_16 rfl (lv_at hl 1 rfl) ?_
      refine lv_icmp_ge (tgt := 26) hx hb d_P_kindsBelow_17 rfl (fun hc => ?_) (fun hc => ?_)
      · have hP := hP.1 hc
        refine lv_iload_n hx hb d_P_kindsBelow_26 rfl (lv_at hl 2 rfl) ?_
        exact yr_i hx hb hr hlk hW hP d_P_kindsBelow_27
      · have hP := hP.2 hc
        obtain ⟨x1, e_x1⟩ : ∃ z : Int32, z = v2 + 1 := ⟨_, rfl⟩
        have hP := hP x1 e_x1
        refine lv_iinc (k := 2) (lv' := [(2, .int x1), (0, .ref (ha G 1)), (1, .int v1)]) hx hb d_P_kindsBelow_20 hl rfl (ii_p1 e_x1) (by decide) rfl (fun ls hl => ?_)
        refine lv_goto (tgt := 2) hx hb d_P_kindsBelow_23 rfl ?_
        exact ih _ _ _ _ _ _ hP (lv_sub hl [1, 2, 0] rfl) hW
set_option maxHeartbeats 4000000 in
set_option maxRecDepth 100000 in
theorem c_P_kindsBelow {l : Launch} {G : GG} (a1 : Int32) (z0 : St) (Q : Int32 → St → Prop) (hP : P_P_kindsBelow a1 z0 Q) : Cti l y_P_kindsBelow cc_P_kindsBelow 3 (some .int) rm_P_kindsBelow G [.ref (ha G 1), .int a1] z0 Q := by
  refine Cti.op (own := R_P) (by decide) rfl (Nat.le_of_ble_eq_true rfl) (fun p e s m args below meth c ls E hl hW => ?_)
  obtain ⟨hx, hb, hml, hown, hr, hlk, hex, hE⟩ := id E
  have hl : lv_has ls 3 [(0, .ref (ha G 1)), (1, .int a1)] := hl
  refine lv_iconst (v := 0) hx hb d_P_kindsBelow_0 (by decide) ?_
  refine lv_istore_n (lv' := [(2, .int (0 : Int32)), (0, .ref (ha G 1)), (1, .int a1)]) hx hb d_P_kindsBelow_1 rfl hl (by decide) rfl (fun ls hl => ?_)
  obtain ⟨n2, hP⟩ := hP
  refine wL_P_kindsBelow_2 E n2 _ _ _ _ _ _ hP (lv_sub hl [1, 2, 0] rfl) hW
theorem d_P_isKind_0 : decode cc_P_isKind 0 = .ok (.aload_n 0, 1) := by decide +kernel
theorem d_P_isKind_1 : decode cc_P_isKind 1 = .ok (.iload_n 1, 1) := by decide +kernel
theorem d_P_isKind_2 : decode cc_P_isKind 2 = .ok (.invokevirtual 46, 3) := by decide +kernel
theorem d_P_isKind_5 : decode cc_P_isKind 5 = .ok (.istore_n 2, 1) := by decide +kernel
theorem d_P_isKind_6 : decode cc_P_isKind 6 = .ok (.iload_n 2, 1) := by decide +kernel
theorem d_P_isKind_7 : decode cc_P_isKind 7 = .ok (.aload_n 0, 1) := by decide +kernel
theorem d_P_isKind_8 : decode cc_P_isKind 8 = .ok (.getfield 28, 3) := by decide +kernel
theorem d_P_isKind_11 : decode cc_P_isKind 11 = .ok (.if_icmp .ge 17, 3) := by decide +kernel
theorem d_P_isKind_14 : decode cc_P_isKind 14 = .ok (.aload_n 0, 1) := by decide +kernel
theorem d_P_isKind_15 : decode cc_P_isKind 15 = .ok (.getfield 18, 3) := by decide +kernel
theorem d_P_isKind_18 : decode cc_P_isKind 18 = .ok (.iload_n 2, 1) := by decide +kernel
theorem d_P_isKind_19 : decode cc_P_isKind 19 = .ok (.iaload, 1) := by decide +kernel
theorem d_P_isKind_20 : decode cc_P_isKind 20 = .ok (.iload_n 1, 1) := by decide +kernel
theorem d_P_isKind_21 : decode cc_P_isKind 21 = .ok (.if_icmp .ne 7, 3) := by decide +kernel
theorem d_P_isKind_24 : decode cc_P_isKind 24 = .ok (.iconst 1, 1) := by decide +kernel
theorem d_P_isKind_25 : decode cc_P_isKind 25 = .ok (.goto 4, 3) := by decide +kernel
theorem d_P_isKind_28 : decode cc_P_isKind 28 = .ok (.iconst 0, 1) := by decide +kernel
theorem d_P_isKind_29 : decode cc_P_isKind 29 = .ok (.ireturn, 1) := by decide +kernel
def P_P_isKind (a1 : Int32) (z0 : St) (Q : Int32 → St → Prop) : Prop := P_P_kindsBelow a1 z0 (fun (x2 : Int32) (z1 : St) => (((z1.1 1 5) ≤ x2) → Q (0 : Int32) z1) ∧ ((¬ (z1.1 1 5) ≤ x2) → vp_in x2 16 ∧ ((¬ (z1.1 4 x2.toNatClampNeg) = a1) → Q (0 : Int32) z1) ∧ (((z1.1 4 x2.toNatClampNeg) = a1) → Q (1 : Int32) z1)))
set_option maxHeartbeats 4000000 in
set_option maxRecDepth 100000 in
theorem c_P_isKind {l : Launch} {G : GG} (a1 : Int32) (z0 : St) (Q : Int32 → St → Prop) (hP : P_P_isKind a1 z0 Q) : Cti l y_P_isKind cc_P_isKind 3 (some .boolean) rm_P_isKind G [.ref (ha G 1), .int a1] z0 Q := by
  refine Cti.op (own := R_P) (by decide) rfl (Nat.le_of_ble_eq_true rfl) (fun p e s m args below meth c ls E hl hW => ?_)
  obtain ⟨hx, hb, hml, hown, hr, hlk, hex, hE⟩ := id E
  have hl : lv_has ls 3 [(0, .ref (ha G 1)), (1, .int a1)] := hl
  refine lv_aload_n hx hb d_P_isKind_0 rfl (lv_at hl 0 rfl) ?_
  refine lv_iload_n hx hb d_P_isKind_1 rfl (lv_at hl 1 rfl) ?_
  refine yc_i (yV (As := [.int a1]) (rest := []) E (c_P_kindsBelow _ _ _ hP) (cw_P_46 hE) (yrv_1 hE hW) (by decide) hW hl.1 rfl rfl rfl d_P_isKind_2) hW (fun x2 z1 H locs hP hW => ?_)
  refine lv_istore_n (lv' := [(2, .int x2), (0, .ref (ha G 1)), (1, .int a1)]) hx hb d_P_isKind_5 rfl hl (by decide) rfl (fun ls hl => ?_)
  refine lv_iload_n hx hb d_P_isKind_6 rfl (lv_at hl 0 rfl) ?_
  refine lv_aload_n hx hb d_P_isKind_7 rfl (lv_at hl 1 rfl) ?_
  refine ygf_1_5 hx hb hown hE hW (lk_P_28 hE) d_P_isKind_8 ?_
  refine lv_icmp_ge (tgt := 28) hx hb d_P_isKind_11 rfl (fun hc => ?_) (fun hc => ?_)
  · have hP := hP.1 hc
    refine lv_iconst (v := 0) hx hb d_P_isKind_28 (by decide) ?_
    exact yr_z hx hb hr hlk hW zb_0 hP d_P_isKind_29
  · have hP := hP.2 hc
    refine lv_aload_n hx hb d_P_isKind_14 rfl (lv_at hl 1 rfl) ?_
    refine ygf_1_2 hx hb hown hE hW (lk_P_18 hE) d_P_isKind_15 ?_
    refine lv_iload_n hx hb d_P_isKind_18 rfl (lv_at hl 0 rfl) ?_
    refine ya_4 hx hb hE hW hP.1 d_P_isKind_19 ?_
    have hP := hP.2
    refine lv_iload_n hx hb d_P_isKind_20 rfl (lv_at hl 2 rfl) ?_
    refine lv_icmp_ne (tgt := 28) hx hb d_P_isKind_21 rfl (fun hc => ?_) (fun hc => ?_)
    · have hP := hP.1 hc
      refine lv_iconst (v := 0) hx hb d_P_isKind_28 (by decide) ?_
      exact yr_z hx hb hr hlk hW zb_0 hP d_P_isKind_29
    · have hP := hP.2 hc
      refine lv_iconst (v := 1) hx hb d_P_isKind_24 (by decide) ?_
      refine lv_goto (tgt := 29) hx hb d_P_isKind_25 rfl ?_
      exact yr_z hx hb hr hlk hW zb_1 hP d_P_isKind_29
theorem d_P_hasRoomFor_0 : decode cc_P_hasRoomFor 0 = .ok (.aload_n 0, 1) := by decide +kernel
theorem d_P_hasRoomFor_1 : decode cc_P_hasRoomFor 1 = .ok (.getfield 24, 3) := by decide +kernel
theorem d_P_hasRoomFor_4 : decode cc_P_hasRoomFor 4 = .ok (.bipush 40, 2) := by decide +kernel
theorem d_P_hasRoomFor_6 : decode cc_P_hasRoomFor 6 = .ok (.if_icmp .ge 24, 3) := by decide +kernel
theorem d_P_hasRoomFor_9 : decode cc_P_hasRoomFor 9 = .ok (.aload_n 0, 1) := by decide +kernel
theorem d_P_hasRoomFor_10 : decode cc_P_hasRoomFor 10 = .ok (.getfield 28, 3) := by decide +kernel
theorem d_P_hasRoomFor_13 : decode cc_P_hasRoomFor 13 = .ok (.bipush 16, 2) := by decide +kernel
theorem d_P_hasRoomFor_15 : decode cc_P_hasRoomFor 15 = .ok (.if_icmp .lt 11, 3) := by decide +kernel
theorem d_P_hasRoomFor_18 : decode cc_P_hasRoomFor 18 = .ok (.aload_n 0, 1) := by decide +kernel
theorem d_P_hasRoomFor_19 : decode cc_P_hasRoomFor 19 = .ok (.iload_n 1, 1) := by decide +kernel
theorem d_P_hasRoomFor_20 : decode cc_P_hasRoomFor 20 = .ok (.invokevirtual 50, 3) := by decide +kernel
theorem d_P_hasRoomFor_23 : decode cc_P_hasRoomFor 23 = .ok (.ifCond .eq 7, 3) := by decide +kernel
theorem d_P_hasRoomFor_26 : decode cc_P_hasRoomFor 26 = .ok (.iconst 1, 1) := by decide +kernel
theorem d_P_hasRoomFor_27 : decode cc_P_hasRoomFor 27 = .ok (.goto 4, 3) := by decide +kernel
theorem d_P_hasRoomFor_30 : decode cc_P_hasRoomFor 30 = .ok (.iconst 0, 1) := by decide +kernel
theorem d_P_hasRoomFor_31 : decode cc_P_hasRoomFor 31 = .ok (.ireturn, 1) := by decide +kernel
def P_P_hasRoomFor (a1 : Int32) (z0 : St) (Q : Int32 → St → Prop) : Prop := (((40 : Int32) ≤ (z0.1 1 4)) → Q (0 : Int32) z0) ∧ ((¬ (40 : Int32) ≤ (z0.1 1 4)) → (((z0.1 1 5) < (16 : Int32)) → Q (1 : Int32) z0) ∧ ((¬ (z0.1 1 5) < (16 : Int32)) → P_P_isKind a1 z0 (fun (x2 : Int32) (z1 : St) => ((x2 = 0) → Q (0 : Int32) z1) ∧ ((¬ x2 = 0) → Q (1 : Int32) z1))))
set_option maxHeartbeats 4000000 in
set_option maxRecDepth 100000 in
theorem c_P_hasRoomFor {l : Launch} {G : GG} (a1 : Int32) (z0 : St) (Q : Int32 → St → Prop) (hP : P_P_hasRoomFor a1 z0 Q) : Cti l y_P_hasRoomFor cc_P_hasRoomFor 2 (some .boolean) rm_P_hasRoomFor G [.ref (ha G 1), .int a1] z0 Q := by
  refine Cti.op (own := R_P) (by decide) rfl (Nat.le_of_ble_eq_true rfl) (fun p e s m args below meth c ls E hl hW => ?_)
  obtain ⟨hx, hb, hml, hown, hr, hlk, hex, hE⟩ := id E
  have hl : lv_has ls 2 [(0, .ref (ha G 1)), (1, .int a1)] := hl
  refine lv_aload_n hx hb d_P_hasRoomFor_0 rfl (lv_at hl 0 rfl) ?_
  refine ygf_1_4 hx hb hown hE hW (lk_P_24 hE) d_P_hasRoomFor_1 ?_
  refine lv_bipush (v := 40) hx hb d_P_hasRoomFor_4 (by decide) ?_
  refine lv_icmp_ge (tgt := 30) hx hb d_P_hasRoomFor_6 rfl (fun hc => ?_) (fun hc => ?_)
  · have hP := hP.1 hc
    refine lv_iconst (v := 0) hx hb d_P_hasRoomFor_30 (by decide) ?_
    exact yr_z hx hb hr hlk hW zb_0 hP d_P_hasRoomFor_31
  · have hP := hP.2 hc
    refine lv_aload_n hx hb d_P_hasRoomFor_9 rfl (lv_at hl 0 rfl) ?_
    refine ygf_1_5 hx hb hown hE hW (lk_P_28 hE) d_P_hasRoomFor_10 ?_
    refine lv_bipush (v := 16) hx hb d_P_hasRoomFor_13 (by decide) ?_
    refine lv_icmp_lt (tgt := 26) hx hb d_P_hasRoomFor_15 rfl (fun hc => ?_) (fun hc => ?_)
    · have hP := hP.1 hc
      refine lv_iconst (v := 1) hx hb d_P_hasRoomFor_26 (by decide) ?_
      refine lv_goto (tgt := 31) hx hb d_P_hasRoomFor_27 rfl ?_
      exact yr_z hx hb hr hlk hW zb_1 hP d_P_hasRoomFor_31
    · have hP := hP.2 hc
      refine lv_aload_n hx hb d_P_hasRoomFor_18 rfl (lv_at hl 0 rfl) ?_
      refine lv_iload_n hx hb d_P_hasRoomFor_19 rfl (lv_at hl 1 rfl) ?_
      refine yc_i (yV (As := [.int a1]) (rest := []) E (c_P_isKind _ _ _ hP) (cw_P_50 hE) (yrv_1 hE hW) (by decide) hW hl.1 rfl rfl rfl d_P_hasRoomFor_20) hW (fun x2 z1 H locs hP hW => ?_)
      refine lv_if_eq (tgt := 30) hx hb d_P_hasRoomFor_23 rfl (fun hc => ?_) (fun hc => ?_)
      · have hP := hP.1 hc
        refine lv_iconst (v := 0) hx hb d_P_hasRoomFor_30 (by decide) ?_
        exact yr_z hx hb hr hlk hW zb_0 hP d_P_hasRoomFor_31
      · have hP := hP.2 hc
        refine lv_iconst (v := 1) hx hb d_P_hasRoomFor_26 (by decide) ?_
        refine lv_goto (tgt := 31) hx hb d_P_hasRoomFor_27 rfl ?_
        exact yr_z hx hb hr hlk hW zb_1 hP d_P_hasRoomFor_31
theorem d_P_insertKind_0 : decode cc_P_insertKind 0 = .ok (.aload_n 0, 1) := by decide +kernel
theorem d_P_insertKind_1 : decode cc_P_insertKind 1 = .ok (.getfield 28, 3) := by decide +kernel
theorem d_P_insertKind_4 : decode cc_P_insertKind 4 = .ok (.istore_n 3, 1) := by decide +kernel
theorem d_P_insertKind_5 : decode cc_P_insertKind 5 = .ok (.iload_n 3, 1) := by decide +kernel
theorem d_P_insertKind_6 : decode cc_P_insertKind 6 = .ok (.iload_n 1, 1) := by decide +kernel
theorem d_P_insertKind_7 : decode cc_P_insertKind 7 = .ok (.if_icmp .le 37, 3) := by decide +kernel
theorem d_P_insertKind_10 : decode cc_P_insertKind 10 = .ok (.aload_n 0, 1) := by decide +kernel
theorem d_P_insertKind_11 : decode cc_P_insertKind 11 = .ok (.getfield 18, 3) := by decide +kernel
theorem d_P_insertKind_14 : decode cc_P_insertKind 14 = .ok (.iload_n 3, 1) := by decide +kernel
theorem d_P_insertKind_15 : decode cc_P_insertKind 15 = .ok (.aload_n 0, 1) := by decide +kernel
theorem d_P_insertKind_16 : decode cc_P_insertKind 16 = .ok (.getfield 18, 3) := by decide +kernel
theorem d_P_insertKind_19 : decode cc_P_insertKind 19 = .ok (.iload_n 3, 1) := by decide +kernel
theorem d_P_insertKind_20 : decode cc_P_insertKind 20 = .ok (.iconst 1, 1) := by decide +kernel
theorem d_P_insertKind_21 : decode cc_P_insertKind 21 = .ok (.isub, 1) := by decide +kernel
theorem d_P_insertKind_22 : decode cc_P_insertKind 22 = .ok (.iaload, 1) := by decide +kernel
theorem d_P_insertKind_23 : decode cc_P_insertKind 23 = .ok (.iastore, 1) := by decide +kernel
theorem d_P_insertKind_24 : decode cc_P_insertKind 24 = .ok (.aload_n 0, 1) := by decide +kernel
theorem d_P_insertKind_25 : decode cc_P_insertKind 25 = .ok (.getfield 21, 3) := by decide +kernel
theorem d_P_insertKind_28 : decode cc_P_insertKind 28 = .ok (.iload_n 3, 1) := by decide +kernel
theorem d_P_insertKind_29 : decode cc_P_insertKind 29 = .ok (.aload_n 0, 1) := by decide +kernel
theorem d_P_insertKind_30 : decode cc_P_insertKind 30 = .ok (.getfield 21, 3) := by decide +kernel
theorem d_P_insertKind_33 : decode cc_P_insertKind 33 = .ok (.iload_n 3, 1) := by decide +kernel
theorem d_P_insertKind_34 : decode cc_P_insertKind 34 = .ok (.iconst 1, 1) := by decide +kernel
theorem d_P_insertKind_35 : decode cc_P_insertKind 35 = .ok (.isub, 1) := by decide +kernel
theorem d_P_insertKind_36 : decode cc_P_insertKind 36 = .ok (.iaload, 1) := by decide +kernel
theorem d_P_insertKind_37 : decode cc_P_insertKind 37 = .ok (.iastore, 1) := by decide +kernel
theorem d_P_insertKind_38 : decode cc_P_insertKind 38 = .ok (.iinc 3 (-1), 3) := by decide +kernel
theorem d_P_insertKind_41 : decode cc_P_insertKind 41 = .ok (.goto (-36), 3) := by decide +kernel
theorem d_P_insertKind_44 : decode cc_P_insertKind 44 = .ok (.aload_n 0, 1) := by decide +kernel
theorem d_P_insertKind_45 : decode cc_P_insertKind 45 = .ok (.getfield 18, 3) := by decide +kernel
theorem d_P_insertKind_48 : decode cc_P_insertKind 48 = .ok (.iload_n 1, 1) := by decide +kernel
theorem d_P_insertKind_49 : decode cc_P_insertKind 49 = .ok (.iload_n 2, 1) := by decide +kernel
theorem d_P_insertKind_50 : decode cc_P_insertKind 50 = .ok (.iastore, 1) := by decide +kernel
theorem d_P_insertKind_51 : decode cc_P_insertKind 51 = .ok (.aload_n 0, 1) := by decide +kernel
theorem d_P_insertKind_52 : decode cc_P_insertKind 52 = .ok (.getfield 21, 3) := by decide +kernel
theorem d_P_insertKind_55 : decode cc_P_insertKind 55 = .ok (.iload_n 1, 1) := by decide +kernel
theorem d_P_insertKind_56 : decode cc_P_insertKind 56 = .ok (.iconst 0, 1) := by decide +kernel
theorem d_P_insertKind_57 : decode cc_P_insertKind 57 = .ok (.iastore, 1) := by decide +kernel
theorem d_P_insertKind_58 : decode cc_P_insertKind 58 = .ok (.aload_n 0, 1) := by decide +kernel
theorem d_P_insertKind_59 : decode cc_P_insertKind 59 = .ok (.dup, 1) := by decide +kernel
theorem d_P_insertKind_60 : decode cc_P_insertKind 60 = .ok (.getfield 28, 3) := by decide +kernel
theorem d_P_insertKind_63 : decode cc_P_insertKind 63 = .ok (.iconst 1, 1) := by decide +kernel
theorem d_P_insertKind_64 : decode cc_P_insertKind 64 = .ok (.iadd, 1) := by decide +kernel
theorem d_P_insertKind_65 : decode cc_P_insertKind 65 = .ok (.putfield 28, 3) := by decide +kernel
theorem d_P_insertKind_68 : decode cc_P_insertKind 68 = .ok (.return_, 1) := by decide +kernel
def L_P_insertKind_5 (K44 : Int32 → Int32 → St → Prop) (Q : St → Prop) : Nat → Int32 → Int32 → Int32 → St → Prop
  | 0, _, _, _, _ => False
  | n + 1, v1, v2, v3, z0 => ((v3 ≤ v1) → K44 v1 v2 z0) ∧ ((¬ v3 ≤ v1) → vp_in (v3 - (1 : Int32)) 16 ∧ vp_in v3 16 ∧ ∀ z2 : St, z2 = wI z0 4 v3.toNatClampNeg (z0.1 4 (v3 - (1 : Int32)).toNatClampNeg) → vp_in (v3 - (1 : Int32)) 16 ∧ vp_in v3 16 ∧ ∀ z3 : St, z3 = wI z2 5 v3.toNatClampNeg (z2.1 5 (v3 - (1 : Int32)).toNatClampNeg) → ∀ x4 : Int32, x4 = v3 - 1 → L_P_insertKind_5 K44 Q n v1 v2 x4 z3)
def P_P_insertKind (a1 : Int32) (a2 : Int32) (z0 : St) (Q : St → Prop) : Prop := ∀ x1 : Int32, x1 = (z0.1 1 5) → ∃ k5 : Nat, L_P_insertKind_5 (fun (x5 : Int32) (x6 : Int32) (z7 : St) => vp_in x5 16 ∧ ∀ z8 : St, z8 = wI z7 4 x5.toNatClampNeg x6 → vp_in x5 16 ∧ ∀ z9 : St, z9 = wI z8 5 x5.toNatClampNeg (0 : Int32) → ∀ z10 : St, z10 = wI z9 1 5 ((z9.1 1 5) + (1 : Int32)) → Q z10) Q k5 a1 a2 x1 z0
set_option maxHeartbeats 4000000 in
set_option maxRecDepth 100000 in
theorem wL_P_insertKind_5 {K44 : Int32 → Int32 → St → Prop} {Q : St → Prop} (E : En p l s m meth c args cc_P_insertKind 4 R_P none G)
    (hK44 : ∀ (v1 : Int32) (v2 : Int32) (z0 : St) (ls : Array Slot) (H : Heap) (locs : List Loc), K44 v1 v2 z0 → lv_has ls 4 [(0, .ref (ha G 1)), (1, .int v1), (2, .int v2)] → Wd G z0 s.heap H locs → W p l e rm_P_insertKind s m args below meth c H locs 0 0 (MQ below (QvR Q G) args s 0 0 (fr G)) (F0 m 44 ls [])) :
    ∀ (n : Nat) (v1 : Int32) (v2 : Int32) (v3 : Int32) (z0 : St) (ls : Array Slot) (H : Heap) (locs : List Loc), L_P_insertKind_5 K44 Q n v1 v2 v3 z0 → lv_has ls 4 [(0, .ref (ha G 1)), (1, .int v1), (2, .int v2), (3, .int v3)] → Wd G z0 s.heap H locs → W p l e rm_P_insertKind s m args below meth c H locs 0 0 (MQ below (QvR Q G) args s 0 0 (fr G)) (F0 m 5 ls []) := by
  obtain ⟨hx, hb, hml, hown, hr, hlk, hex, hE⟩ := id E
  intro n
  induction n with
  | zero => exact fun _ _ _ _ _ _ _ hP _ _ => hP.elim
  | succ n ih =>
    intro v1 v2 v3 z0 ls H locs hP hl hW
    refine lv_iload_n hx hb d_P_insertKind_5 rfl (lv_at hl 3 rfl) ?_
    refine lv_iload_n hx hb d_P_insertKind_6 rfl (lv_at hl 1 rfl) ?_
    refine lv_icmp_le (tgt := 44) hx hb d_P_insertKind_7 rfl (fun hc => ?_) (fun hc => ?_)
    · have hP := hP.1 hc
      exact hK44 _ _ _ _ _ _ hP (lv_sub hl [0, 1, 2] rfl) hW
    · have hP := hP.2 hc
      refine lv_aload_n hx hb d_P_insertKind_10 rfl (lv_at hl 0 rfl) ?_
      refine ygf_1_2 hx hb hown hE hW (lk_P_18 hE) d_P_insertKind_11 ?_
      refine lv_iload_n hx hb d_P_insertKind_14 rfl (lv_at hl 3 rfl) ?_
      refine lv_aload_n hx hb d_P_insertKind_15 rfl (lv_at hl 0 rfl) ?_
      refine ygf_1_2 hx hb hown hE hW (lk_P_18 hE) d_P_insertKind_16 ?_
      refine lv_iload_n hx hb d_P_insertKind_19 rfl (lv_at hl 3 rfl) ?_
      refine lv_iconst (v := 1) hx hb d_P_insertKind_20 (by decide) ?_
      refine lv_isub hx hb d_P_insertKind_21 ?_
      refine ya_4 hx hb hE hW hP.1 d_P_insertKind_22 ?_
      have hP := hP.2
      refine ys_4 hx hb hE hW hP.1 d_P_insertKind_23 (fun z2 H locs e_z2 hW => ?_)
      have hP := hP.2
      have hP := hP z2 e_z2
      refine lv_aload_n hx hb d_P_insertKind_24 rfl (lv_at hl 0 rfl) ?_
      refine ygf_1_3 hx hb hown hE hW (lk_P_21 hE) d_P_insertKind_25 ?_
      refine lv_iload_n hx hb d_P_insertKind_28 rfl (lv_at hl 3 rfl) ?_
      refine lv_aload_n hx hb d_P_insertKind_29 rfl (lv_at hl 0 rfl) ?_
      refine ygf_1_3 hx hb hown hE hW (lk_P_21 hE) d_P_insertKind_30 ?_
      refine lv_iload_n hx hb d_P_insertKind_33 rfl (lv_at hl 3 rfl) ?_
      refine lv_iconst (v := 1) hx hb d_P_insertKind_34 (by decide) ?_
      refine lv_isub hx hb d_P_insertKind_35 ?_
      refine ya_5 hx hb hE hW hP.1 d_P_insertKind_36 ?_
      have hP := hP.2
      refine ys_5 hx hb hE hW hP.1 d_P_insertKind_37 (fun z3 H locs e_z3 hW => ?_)
      have hP := hP.2
      have hP := hP z3 e_z3
      obtain ⟨x4, e_x4⟩ : ∃ z : Int32, z = v3 - 1 := ⟨_, rfl⟩
      have hP := hP x4 e_x4
      refine lv_iinc (k := 3) (lv' := [(3, .int x4), (0, .ref (ha G 1)), (1, .int v1), (2, .int v2)]) hx hb d_P_insertKind_38 hl rfl (ii_m1 e_x4) (by decide) rfl (fun ls hl => ?_)
      refine lv_goto (tgt := 5) hx hb d_P_insertKind_41 rfl ?_
      exact ih _ _ _ _ _ _ _ hP (lv_sub hl [1, 2, 3, 0] rfl) hW
set_option maxHeartbeats 4000000 in
set_option maxRecDepth 100000 in
theorem c_P_insertKind {l : Launch} {G : GG} (a1 : Int32) (a2 : Int32) (z0 : St) (Q : St → Prop) (hP : P_P_insertKind a1 a2 z0 Q) : Ctv l y_P_insertKind cc_P_insertKind 4 none rm_P_insertKind G [.ref (ha G 1), .int a1, .int a2] z0 Q := by
  refine Ctv.op (own := R_P) (by decide) rfl (Nat.le_of_ble_eq_true rfl) (fun p e s m args below meth c ls E hl hW => ?_)
  obtain ⟨hx, hb, hml, hown, hr, hlk, hex, hE⟩ := id E
  have hl : lv_has ls 4 [(0, .ref (ha G 1)), (1, .int a1), (2, .int a2)] := hl
  refine lv_aload_n hx hb d_P_insertKind_0 rfl (lv_at hl 0 rfl) ?_
  refine ygf_1_5 hx hb hown hE hW (lk_P_28 hE) d_P_insertKind_1 ?_
  refine lv_topi (fun x1 e_x1 => ?_)
  have hP := hP x1 e_x1
  refine lv_istore_n (lv' := [(3, .int x1), (0, .ref (ha G 1)), (1, .int a1), (2, .int a2)]) hx hb d_P_insertKind_4 rfl hl (by decide) rfl (fun ls hl => ?_)
  obtain ⟨n2, hP⟩ := hP
  refine wL_P_insertKind_5 E ?_ n2 _ _ _ _ _ _ _ hP (lv_sub hl [1, 2, 3, 0] rfl) hW
  · intro x5 x6 z7 ls H locs hP hl hW
    refine lv_aload_n hx hb d_P_insertKind_44 rfl (lv_at hl 0 rfl) ?_
    refine ygf_1_2 hx hb hown hE hW (lk_P_18 hE) d_P_insertKind_45 ?_
    refine lv_iload_n hx hb d_P_insertKind_48 rfl (lv_at hl 1 rfl) ?_
    refine lv_iload_n hx hb d_P_insertKind_49 rfl (lv_at hl 2 rfl) ?_
    refine ys_4 hx hb hE hW hP.1 d_P_insertKind_50 (fun z8 H locs e_z8 hW => ?_)
    have hP := hP.2
    have hP := hP z8 e_z8
    refine lv_aload_n hx hb d_P_insertKind_51 rfl (lv_at hl 0 rfl) ?_
    refine ygf_1_3 hx hb hown hE hW (lk_P_21 hE) d_P_insertKind_52 ?_
    refine lv_iload_n hx hb d_P_insertKind_55 rfl (lv_at hl 1 rfl) ?_
    refine lv_iconst (v := 0) hx hb d_P_insertKind_56 (by decide) ?_
    refine ys_5 hx hb hE hW hP.1 d_P_insertKind_57 (fun z9 H locs e_z9 hW => ?_)
    have hP := hP.2
    have hP := hP z9 e_z9
    refine lv_aload_n hx hb d_P_insertKind_58 rfl (lv_at hl 0 rfl) ?_
    refine lv_dup hx hb d_P_insertKind_59 rfl ?_
    refine ygf_1_5 hx hb hown hE hW (lk_P_28 hE) d_P_insertKind_60 ?_
    refine lv_iconst (v := 1) hx hb d_P_insertKind_63 (by decide) ?_
    refine lv_iadd hx hb d_P_insertKind_64 ?_
    refine ypf_1_5 hx hb hown hE hW (lk_P_28 hE) d_P_insertKind_65 (fun z10 H locs e_z10 hW => ?_)
    have hP := hP z10 e_z10
    exact yr_v hx hb hr hlk hW hP d_P_insertKind_68
theorem d_P_add_0 : decode cc_P_add 0 = .ok (.aload_n 0, 1) := by decide +kernel
theorem d_P_add_1 : decode cc_P_add 1 = .ok (.iload_n 1, 1) := by decide +kernel
theorem d_P_add_2 : decode cc_P_add 2 = .ok (.invokevirtual 50, 3) := by decide +kernel
theorem d_P_add_5 : decode cc_P_add 5 = .ok (.ifCond .ne 13, 3) := by decide +kernel
theorem d_P_add_8 : decode cc_P_add 8 = .ok (.aload_n 0, 1) := by decide +kernel
theorem d_P_add_9 : decode cc_P_add 9 = .ok (.aload_n 0, 1) := by decide +kernel
theorem d_P_add_10 : decode cc_P_add 10 = .ok (.iload_n 1, 1) := by decide +kernel
theorem d_P_add_11 : decode cc_P_add 11 = .ok (.invokevirtual 46, 3) := by decide +kernel
theorem d_P_add_14 : decode cc_P_add 14 = .ok (.iload_n 1, 1) := by decide +kernel
theorem d_P_add_15 : decode cc_P_add 15 = .ok (.invokevirtual 54, 3) := by decide +kernel
theorem d_P_add_18 : decode cc_P_add 18 = .ok (.aload_n 0, 1) := by decide +kernel
theorem d_P_add_19 : decode cc_P_add 19 = .ok (.getfield 21, 3) := by decide +kernel
theorem d_P_add_22 : decode cc_P_add 22 = .ok (.aload_n 0, 1) := by decide +kernel
theorem d_P_add_23 : decode cc_P_add 23 = .ok (.iload_n 1, 1) := by decide +kernel
theorem d_P_add_24 : decode cc_P_add 24 = .ok (.invokevirtual 46, 3) := by decide +kernel
theorem d_P_add_27 : decode cc_P_add 27 = .ok (.dup2, 1) := by decide +kernel
theorem d_P_add_28 : decode cc_P_add 28 = .ok (.iaload, 1) := by decide +kernel
theorem d_P_add_29 : decode cc_P_add 29 = .ok (.iconst 1, 1) := by decide +kernel
theorem d_P_add_30 : decode cc_P_add 30 = .ok (.iadd, 1) := by decide +kernel
theorem d_P_add_31 : decode cc_P_add 31 = .ok (.iastore, 1) := by decide +kernel
theorem d_P_add_32 : decode cc_P_add 32 = .ok (.aload_n 0, 1) := by decide +kernel
theorem d_P_add_33 : decode cc_P_add 33 = .ok (.getfield 15, 3) := by decide +kernel
theorem d_P_add_36 : decode cc_P_add 36 = .ok (.aload_n 0, 1) := by decide +kernel
theorem d_P_add_37 : decode cc_P_add 37 = .ok (.getfield 24, 3) := by decide +kernel
theorem d_P_add_40 : decode cc_P_add 40 = .ok (.iload_n 1, 1) := by decide +kernel
theorem d_P_add_41 : decode cc_P_add 41 = .ok (.iastore, 1) := by decide +kernel
theorem d_P_add_42 : decode cc_P_add 42 = .ok (.aload_n 0, 1) := by decide +kernel
theorem d_P_add_43 : decode cc_P_add 43 = .ok (.dup, 1) := by decide +kernel
theorem d_P_add_44 : decode cc_P_add 44 = .ok (.getfield 24, 3) := by decide +kernel
theorem d_P_add_47 : decode cc_P_add 47 = .ok (.dup_x1, 1) := by decide +kernel
theorem d_P_add_48 : decode cc_P_add 48 = .ok (.iconst 1, 1) := by decide +kernel
theorem d_P_add_49 : decode cc_P_add 49 = .ok (.iadd, 1) := by decide +kernel
theorem d_P_add_50 : decode cc_P_add 50 = .ok (.putfield 24, 3) := by decide +kernel
theorem d_P_add_53 : decode cc_P_add 53 = .ok (.ireturn, 1) := by decide +kernel
def J_P_add_18 (Q : Int32 → St → Prop) (v1 : Int32) (z0 : St) : Prop := P_P_kindsBelow v1 z0 (fun (x4 : Int32) (z3 : St) => vp_in x4 16 ∧ vp_in x4 16 ∧ ∀ z5 : St, z5 = wI z3 5 x4.toNatClampNeg ((z3.1 5 x4.toNatClampNeg) + (1 : Int32)) → vp_in (z5.1 1 4) 40 ∧ ∀ z6 : St, z6 = wI z5 3 (z5.1 1 4).toNatClampNeg v1 → ∀ z7 : St, z7 = wI z6 1 4 ((z6.1 1 4) + (1 : Int32)) → Q (z6.1 1 4) z7)
def P_P_add (a1 : Int32) (z0 : St) (Q : Int32 → St → Prop) : Prop := P_P_isKind a1 z0 (fun (x2 : Int32) (z1 : St) => ((¬ x2 = 0) → J_P_add_18 Q a1 z1) ∧ ((x2 = 0) → P_P_kindsBelow a1 z1 (fun (x9 : Int32) (z8 : St) => P_P_insertKind x9 a1 z8 (fun (z10 : St) => J_P_add_18 Q a1 z10))))
set_option maxHeartbeats 4000000 in
set_option maxRecDepth 100000 in
theorem wJ_P_add_18 {Q : Int32 → St → Prop} (E : En p l s m meth c args cc_P_add 2 R_P (some .int) G)
    (v1 : Int32) (z0 : St) (ls : Array Slot) (H : Heap) (locs : List Loc) (hP : J_P_add_18 Q v1 z0) (hl : lv_has ls 2 [(0, .ref (ha G 1)), (1, .int v1)]) (hW : Wd G z0 s.heap H locs) : W p l e rm_P_add s m args below meth c H locs 0 0 (MQ below (QiR Q G) args s 0 0 (fr G)) (F0 m 18 ls []) := by
  obtain ⟨hx, hb, hml, hown, hr, hlk, hex, hE⟩ := id E
  refine lv_aload_n hx hb d_P_add_18 rfl (lv_at hl 0 rfl) ?_
  refine ygf_1_3 hx hb hown hE hW (lk_P_21 hE) d_P_add_19 ?_
  refine lv_aload_n hx hb d_P_add_22 rfl (lv_at hl 0 rfl) ?_
  refine lv_iload_n hx hb d_P_add_23 rfl (lv_at hl 1 rfl) ?_
  refine yc_i (yV (As := [.int v1]) (rest := [.ref (ha G 5)]) E (c_P_kindsBelow _ _ _ hP) (cw_P_46 hE) (yrv_1 hE hW) (by decide) hW hl.1 rfl rfl rfl d_P_add_24) hW (fun x4 z3 H locs hP hW => ?_)
  refine lv_dup2_11 hx hb d_P_add_27 rfl rfl ?_
  refine ya_5 hx hb hE hW hP.1 d_P_add_28 ?_
  have hP := hP.2
  refine lv_iconst (v := 1) hx hb d_P_add_29 (by decide) ?_
  refine lv_iadd hx hb d_P_add_30 ?_
  refine ys_5 hx hb hE hW hP.1 d_P_add_31 (fun z5 H locs e_z5 hW => ?_)
  have hP := hP.2
  have hP := hP z5 e_z5
  refine lv_aload_n hx hb d_P_add_32 rfl (lv_at hl 0 rfl) ?_
  refine ygf_1_1 hx hb hown hE hW (lk_P_15 hE) d_P_add_33 ?_
  refine lv_aload_n hx hb d_P_add_36 rfl (lv_at hl 0 rfl) ?_
  refine ygf_1_4 hx hb hown hE hW (lk_P_24 hE) d_P_add_37 ?_
  refine lv_iload_n hx hb d_P_add_40 rfl (lv_at hl 1 rfl) ?_
  refine ys_3 hx hb hE hW hP.1 d_P_add_41 (fun z6 H locs e_z6 hW => ?_)
  have hP := hP.2
  have hP := hP z6 e_z6
  refine lv_aload_n hx hb d_P_add_42 rfl (lv_at hl 0 rfl) ?_
  refine lv_dup hx hb d_P_add_43 rfl ?_
  refine ygf_1_4 hx hb hown hE hW (lk_P_24 hE) d_P_add_44 ?_
  refine lv_dup_x1 hx hb d_P_add_47 rfl rfl ?_
  refine lv_iconst (v := 1) hx hb d_P_add_48 (by decide) ?_
  refine lv_iadd hx hb d_P_add_49 ?_
  refine ypf_1_4 hx hb hown hE hW (lk_P_24 hE) d_P_add_50 (fun z7 H locs e_z7 hW => ?_)
  have hP := hP z7 e_z7
  exact yr_i hx hb hr hlk hW hP d_P_add_53
set_option maxHeartbeats 4000000 in
set_option maxRecDepth 100000 in
theorem c_P_add {l : Launch} {G : GG} (a1 : Int32) (z0 : St) (Q : Int32 → St → Prop) (hP : P_P_add a1 z0 Q) : Cti l y_P_add cc_P_add 2 (some .int) rm_P_add G [.ref (ha G 1), .int a1] z0 Q := by
  refine Cti.op (own := R_P) (by decide) rfl (Nat.le_of_ble_eq_true rfl) (fun p e s m args below meth c ls E hl hW => ?_)
  obtain ⟨hx, hb, hml, hown, hr, hlk, hex, hE⟩ := id E
  have hl : lv_has ls 2 [(0, .ref (ha G 1)), (1, .int a1)] := hl
  refine lv_aload_n hx hb d_P_add_0 rfl (lv_at hl 0 rfl) ?_
  refine lv_iload_n hx hb d_P_add_1 rfl (lv_at hl 1 rfl) ?_
  refine yc_i (yV (As := [.int a1]) (rest := []) E (c_P_isKind _ _ _ hP) (cw_P_50 hE) (yrv_1 hE hW) (by decide) hW hl.1 rfl rfl rfl d_P_add_2) hW (fun x2 z1 H locs hP hW => ?_)
  refine lv_if_ne (tgt := 18) hx hb d_P_add_5 rfl (fun hc => ?_) (fun hc => ?_)
  · have hP := hP.1 hc
    exact wJ_P_add_18 E _ _ _ _ _ hP hl hW
  · have hP := hP.2 hc
    refine lv_aload_n hx hb d_P_add_8 rfl (lv_at hl 0 rfl) ?_
    refine lv_aload_n hx hb d_P_add_9 rfl (lv_at hl 0 rfl) ?_
    refine lv_iload_n hx hb d_P_add_10 rfl (lv_at hl 1 rfl) ?_
    refine yc_i (yV (As := [.int a1]) (rest := [.ref (ha G 1)]) E (c_P_kindsBelow _ _ _ hP) (cw_P_46 hE) (yrv_1 hE hW) (by decide) hW hl.1 rfl rfl rfl d_P_add_11) hW (fun x9 z8 H locs hP hW => ?_)
    refine lv_iload_n hx hb d_P_add_14 rfl (lv_at hl 1 rfl) ?_
    refine yc_v (yV (As := [.int x9, .int a1]) (rest := []) E (c_P_insertKind _ _ _ _ hP) (cw_P_54 hE) (yrv_1 hE hW) (by decide) hW hl.1 rfl rfl rfl d_P_add_15) hW (fun z10 H locs hP hW => ?_)
    exact wJ_P_add_18 E _ _ _ _ _ hP hl hW
theorem d_O_person_0 : decode cc_O_person 0 = .ok (.aload_n 0, 1) := by decide +kernel
theorem d_O_person_1 : decode cc_O_person 1 = .ok (.getfield 12, 3) := by decide +kernel
theorem d_O_person_4 : decode cc_O_person 4 = .ok (.iconst 0, 1) := by decide +kernel
theorem d_O_person_5 : decode cc_O_person 5 = .ok (.iload_n 1, 1) := by decide +kernel
theorem d_O_person_6 : decode cc_O_person 6 = .ok (.invokevirtual 103, 3) := by decide +kernel
theorem d_O_person_9 : decode cc_O_person 9 = .ok (.ifCond .eq 27, 3) := by decide +kernel
theorem d_O_person_12 : decode cc_O_person 12 = .ok (.aload_n 0, 1) := by decide +kernel
theorem d_O_person_13 : decode cc_O_person 13 = .ok (.getfield 12, 3) := by decide +kernel
theorem d_O_person_16 : decode cc_O_person 16 = .ok (.iconst 1, 1) := by decide +kernel
theorem d_O_person_17 : decode cc_O_person 17 = .ok (.iload_n 2, 1) := by decide +kernel
theorem d_O_person_18 : decode cc_O_person 18 = .ok (.invokevirtual 103, 3) := by decide +kernel
theorem d_O_person_21 : decode cc_O_person 21 = .ok (.ifCond .eq 15, 3) := by decide +kernel
theorem d_O_person_24 : decode cc_O_person 24 = .ok (.aload_n 0, 1) := by decide +kernel
theorem d_O_person_25 : decode cc_O_person 25 = .ok (.getfield 12, 3) := by decide +kernel
theorem d_O_person_28 : decode cc_O_person 28 = .ok (.iconst 2, 1) := by decide +kernel
theorem d_O_person_29 : decode cc_O_person 29 = .ok (.iload_n 3, 1) := by decide +kernel
theorem d_O_person_30 : decode cc_O_person 30 = .ok (.invokevirtual 103, 3) := by decide +kernel
theorem d_O_person_33 : decode cc_O_person 33 = .ok (.ifCond .ne 13, 3) := by decide +kernel
theorem d_O_person_36 : decode cc_O_person 36 = .ok (.new 87, 3) := by decide +kernel
theorem d_O_person_39 : decode cc_O_person 39 = .ok (.dup, 1) := by decide +kernel
theorem d_O_person_40 : decode cc_O_person 40 = .ok (.ldc 107, 2) := by decide +kernel
theorem d_O_person_42 : decode cc_O_person 42 = .ok (.invokespecial 91, 3) := by decide +kernel
theorem d_O_person_45 : decode cc_O_person 45 = .ok (.athrow, 1) := by decide +kernel
theorem d_O_person_46 : decode cc_O_person 46 = .ok (.aload_n 0, 1) := by decide +kernel
theorem d_O_person_47 : decode cc_O_person 47 = .ok (.invokevirtual 94, 3) := by decide +kernel
theorem d_O_person_50 : decode cc_O_person 50 = .ok (.iload_n 1, 1) := by decide +kernel
theorem d_O_person_51 : decode cc_O_person 51 = .ok (.iload_n 2, 1) := by decide +kernel
theorem d_O_person_52 : decode cc_O_person 52 = .ok (.iload_n 3, 1) := by decide +kernel
theorem d_O_person_53 : decode cc_O_person 53 = .ok (.invokestatic 109, 3) := by decide +kernel
theorem d_O_person_56 : decode cc_O_person 56 = .ok (.istore 4, 2) := by decide +kernel
theorem d_O_person_58 : decode cc_O_person 58 = .ok (.aload_n 0, 1) := by decide +kernel
theorem d_O_person_59 : decode cc_O_person 59 = .ok (.getfield 12, 3) := by decide +kernel
theorem d_O_person_62 : decode cc_O_person 62 = .ok (.iload 4, 2) := by decide +kernel
theorem d_O_person_64 : decode cc_O_person 64 = .ok (.invokevirtual 113, 3) := by decide +kernel
theorem d_O_person_67 : decode cc_O_person 67 = .ok (.ifCond .ne 13, 3) := by decide +kernel
theorem d_O_person_70 : decode cc_O_person 70 = .ok (.new 117, 3) := by decide +kernel
theorem d_O_person_73 : decode cc_O_person 73 = .ok (.dup, 1) := by decide +kernel
theorem d_O_person_74 : decode cc_O_person 74 = .ok (.ldc 119, 2) := by decide +kernel
theorem d_O_person_76 : decode cc_O_person 76 = .ok (.invokespecial 121, 3) := by decide +kernel
theorem d_O_person_79 : decode cc_O_person 79 = .ok (.athrow, 1) := by decide +kernel
theorem d_O_person_80 : decode cc_O_person 80 = .ok (.aload_n 0, 1) := by decide +kernel
theorem d_O_person_81 : decode cc_O_person 81 = .ok (.invokevirtual 100, 3) := by decide +kernel
theorem d_O_person_84 : decode cc_O_person 84 = .ok (.aload_n 0, 1) := by decide +kernel
theorem d_O_person_85 : decode cc_O_person 85 = .ok (.getfield 12, 3) := by decide +kernel
theorem d_O_person_88 : decode cc_O_person 88 = .ok (.iload 4, 2) := by decide +kernel
theorem d_O_person_90 : decode cc_O_person 90 = .ok (.invokevirtual 122, 3) := by decide +kernel
theorem d_O_person_93 : decode cc_O_person 93 = .ok (.ireturn, 1) := by decide +kernel
def P_O_person (a1 : Int32) (a2 : Int32) (a3 : Int32) (z0 : St) (Q : Int32 → St → Prop) (X : Nat → St → Prop) : Prop := P_P_hasValue (0 : Int32) a1 z0 (fun (x2 : Int32) (z1 : St) => ((x2 = 0) → X 0 z1) ∧ ((¬ x2 = 0) → P_P_hasValue (1 : Int32) a2 z1 (fun (x4 : Int32) (z3 : St) => ((x4 = 0) → X 0 z3) ∧ ((¬ x4 = 0) → P_P_hasValue (2 : Int32) a3 z3 (fun (x6 : Int32) (z5 : St) => ((¬ x6 = 0) → P_O_requireOpen z5 (fun (z7 : St) => P_P_codeOf a1 a2 a3 z7 (fun (x9 : Int32) (z8 : St) => P_P_hasRoomFor x9 z8 (fun (x11 : Int32) (z10 : St) => ((¬ x11 = 0) → P_O_changed z10 (fun (z12 : St) => P_P_add x9 z12 (fun (x14 : Int32) (z13 : St) => Q x14 z13))) ∧ ((x11 = 0) → X 1 z10)))) X) ∧ ((x6 = 0) → X 0 z5))))))
set_option maxHeartbeats 4000000 in
set_option maxRecDepth 100000 in
theorem c_O_person {l : Launch} {G : GG} (a1 : Int32) (a2 : Int32) (a3 : Int32) (z0 : St) (Q : Int32 → St → Prop) (X : Nat → St → Prop) (hP : P_O_person a1 a2 a3 z0 Q X) : CtiX l y_O_person cc_O_person 5 (some .int) rm_O_person G [.ref (ha G 0), .int a1, .int a2, .int a3] z0 Q X := by
  refine CtiX.op (own := R_O) (by decide) rfl (Nat.le_of_ble_eq_true rfl) (fun p e s m args below meth c ls E hl hW => ?_)
  obtain ⟨hx, hb, hml, hown, hr, hlk, hex, hE⟩ := id E
  have hl : lv_has ls 5 [(0, .ref (ha G 0)), (1, .int a1), (2, .int a2), (3, .int a3)] := hl
  refine lv_aload_n hx hb d_O_person_0 rfl (lv_at hl 0 rfl) ?_
  refine ygf_0_0 hx hb hown hE hW (lk_O_12 hE) d_O_person_1 ?_
  refine lv_iconst (v := 0) hx hb d_O_person_4 (by decide) ?_
  refine lv_iload_n hx hb d_O_person_5 rfl (lv_at hl 1 rfl) ?_
  refine yc_i (yV (As := [.int (0 : Int32), .int a1]) (rest := []) E (c_P_hasValue _ _ _ _ hP) (cw_O_103 hE) (yrv_1 hE hW) (by decide) hW hl.1 rfl rfl rfl d_O_person_6) hW (fun x2 z1 H locs hP hW => ?_)
  refine lv_if_eq (tgt := 36) hx hb d_O_person_9 rfl (fun hc => ?_) (fun hc => ?_)
  · have hP := hP.1 hc
    exact yt (k := 0) hx hb hown hlk hex hE hW hl.1 hml (by decide) (by decide) (fun _ h => lt_O_0_107 h) d_O_person_36 d_O_person_39 (Or.inl ⟨d_O_person_40, rfl⟩) d_O_person_42 d_O_person_45 hP (fun _ _ h1 h2 => Or.inr ⟨h1, h2⟩)
  · have hP := hP.2 hc
    refine lv_aload_n hx hb d_O_person_12 rfl (lv_at hl 0 rfl) ?_
    refine ygf_0_0 hx hb hown hE hW (lk_O_12 hE) d_O_person_13 ?_
    refine lv_iconst (v := 1) hx hb d_O_person_16 (by decide) ?_
    refine lv_iload_n hx hb d_O_person_17 rfl (lv_at hl 2 rfl) ?_
    refine yc_i (yV (As := [.int (1 : Int32), .int a2]) (rest := []) E (c_P_hasValue _ _ _ _ hP) (cw_O_103 hE) (yrv_1 hE hW) (by decide) hW hl.1 rfl rfl rfl d_O_person_18) hW (fun x4 z3 H locs hP hW => ?_)
    refine lv_if_eq (tgt := 36) hx hb d_O_person_21 rfl (fun hc => ?_) (fun hc => ?_)
    · have hP := hP.1 hc
      exact yt (k := 0) hx hb hown hlk hex hE hW hl.1 hml (by decide) (by decide) (fun _ h => lt_O_0_107 h) d_O_person_36 d_O_person_39 (Or.inl ⟨d_O_person_40, rfl⟩) d_O_person_42 d_O_person_45 hP (fun _ _ h1 h2 => Or.inr ⟨h1, h2⟩)
    · have hP := hP.2 hc
      refine lv_aload_n hx hb d_O_person_24 rfl (lv_at hl 0 rfl) ?_
      refine ygf_0_0 hx hb hown hE hW (lk_O_12 hE) d_O_person_25 ?_
      refine lv_iconst (v := 2) hx hb d_O_person_28 (by decide) ?_
      refine lv_iload_n hx hb d_O_person_29 rfl (lv_at hl 3 rfl) ?_
      refine yc_i (yV (As := [.int (2 : Int32), .int a3]) (rest := []) E (c_P_hasValue _ _ _ _ hP) (cw_O_103 hE) (yrv_1 hE hW) (by decide) hW hl.1 rfl rfl rfl d_O_person_30) hW (fun x6 z5 H locs hP hW => ?_)
      refine lv_if_ne (tgt := 46) hx hb d_O_person_33 rfl (fun hc => ?_) (fun hc => ?_)
      · have hP := hP.1 hc
        refine lv_aload_n hx hb d_O_person_46 rfl (lv_at hl 0 rfl) ?_
        refine yx_v (yVX (As := []) (rest := []) E (c_O_requireOpen _ _ _ hP) (cw_O_94 hE) (yrv_0 hE hW) (by decide) hW hl.1 rfl rfl rfl d_O_person_47) hW (fun z7 H locs hP hW => ?_) hlk hex (fun _ _ h1 h2 => Or.inr ⟨h1, h2⟩)
        refine lv_iload_n hx hb d_O_person_50 rfl (lv_at hl 1 rfl) ?_
        refine lv_iload_n hx hb d_O_person_51 rfl (lv_at hl 2 rfl) ?_
        refine lv_iload_n hx hb d_O_person_52 rfl (lv_at hl 3 rfl) ?_
        refine yc_i (yS (As := [.int a1, .int a2, .int a3]) (rest := []) E (c_P_codeOf _ _ _ _ _ hP) (cw_O_109 hE) (by decide) hW hl.1 rfl rfl rfl d_O_person_53) hW (fun x9 z8 H locs hP hW => ?_)
        refine lv_istore (lv' := [(4, .int x9), (0, .ref (ha G 0)), (1, .int a1), (2, .int a2), (3, .int a3)]) hx hb d_O_person_56 hl (by decide) rfl (fun ls hl => ?_)
        refine lv_aload_n hx hb d_O_person_58 rfl (lv_at hl 1 rfl) ?_
        refine ygf_0_0 hx hb hown hE hW (lk_O_12 hE) d_O_person_59 ?_
        refine lv_iload hx hb d_O_person_62 (lv_at hl 0 rfl) ?_
        refine yc_i (yV (As := [.int x9]) (rest := []) E (c_P_hasRoomFor _ _ _ hP) (cw_O_113 hE) (yrv_1 hE hW) (by decide) hW hl.1 rfl rfl rfl d_O_person_64) hW (fun x11 z10 H locs hP hW => ?_)
        refine lv_if_ne (tgt := 80) hx hb d_O_person_67 rfl (fun hc => ?_) (fun hc => ?_)
        · have hP := hP.1 hc
          refine lv_aload_n hx hb d_O_person_80 rfl (lv_at hl 1 rfl) ?_
          refine yc_v (yV (As := []) (rest := []) E (c_O_changed _ _ hP) (cw_O_100 hE) (yrv_0 hE hW) (by decide) hW hl.1 rfl rfl rfl d_O_person_81) hW (fun z12 H locs hP hW => ?_)
          refine lv_aload_n hx hb d_O_person_84 rfl (lv_at hl 1 rfl) ?_
          refine ygf_0_0 hx hb hown hE hW (lk_O_12 hE) d_O_person_85 ?_
          refine lv_iload hx hb d_O_person_88 (lv_at hl 0 rfl) ?_
          refine yc_i (yV (As := [.int x9]) (rest := []) E (c_P_add _ _ _ hP) (cw_O_122 hE) (yrv_1 hE hW) (by decide) hW hl.1 rfl rfl rfl d_O_person_90) hW (fun x14 z13 H locs hP hW => ?_)
          exact yr_iX hx hb hr hlk hW hP d_O_person_93
        · have hP := hP.2 hc
          exact yt (k := 1) hx hb hown hlk hex hE hW hl.1 hml (by decide) (by decide) (fun _ h => lt_O_1_119 h) d_O_person_70 d_O_person_73 (Or.inl ⟨d_O_person_74, rfl⟩) d_O_person_76 d_O_person_79 hP (fun _ _ h1 h2 => Or.inr ⟨h1, h2⟩)
      · have hP := hP.2 hc
        exact yt (k := 0) hx hb hown hlk hex hE hW hl.1 hml (by decide) (by decide) (fun _ h => lt_O_0_107 h) d_O_person_36 d_O_person_39 (Or.inl ⟨d_O_person_40, rfl⟩) d_O_person_42 d_O_person_45 hP (fun _ _ h1 h2 => Or.inr ⟨h1, h2⟩)
theorem d_O_quotaOf_0 : decode cc_O_quotaOf 0 = .ok (.iload_n 0, 1) := by decide +kernel
theorem d_O_quotaOf_1 : decode cc_O_quotaOf 1 = .ok (.iconst 4, 1) := by decide +kernel
theorem d_O_quotaOf_2 : decode cc_O_quotaOf 2 = .ok (.imul, 1) := by decide +kernel
theorem d_O_quotaOf_3 : decode cc_O_quotaOf 3 = .ok (.iload_n 1, 1) := by decide +kernel
theorem d_O_quotaOf_4 : decode cc_O_quotaOf 4 = .ok (.iadd, 1) := by decide +kernel
theorem d_O_quotaOf_5 : decode cc_O_quotaOf 5 = .ok (.ireturn, 1) := by decide +kernel
def P_O_quotaOf (a0 : Int32) (a1 : Int32) (z0 : St) (Q : Int32 → St → Prop) : Prop := Q ((a0 * (4 : Int32)) + a1) z0
set_option maxHeartbeats 4000000 in
set_option maxRecDepth 100000 in
theorem c_O_quotaOf {l : Launch} {G : GG} (a0 : Int32) (a1 : Int32) (z0 : St) (Q : Int32 → St → Prop) (hP : P_O_quotaOf a0 a1 z0 Q) : Cti l y_O_quotaOf cc_O_quotaOf 2 (some .int) rm_O_quotaOf G [.int a0, .int a1] z0 Q := by
  refine Cti.op (own := R_O) (by decide) rfl (Nat.le_of_ble_eq_true rfl) (fun p e s m args below meth c ls E hl hW => ?_)
  obtain ⟨hx, hb, hml, hown, hr, hlk, hex, hE⟩ := id E
  have hl : lv_has ls 2 [(0, .int a0), (1, .int a1)] := hl
  refine lv_iload_n hx hb d_O_quotaOf_0 rfl (lv_at hl 0 rfl) ?_
  refine lv_iconst (v := 4) hx hb d_O_quotaOf_1 (by decide) ?_
  refine lv_imul hx hb d_O_quotaOf_2 ?_
  refine lv_iload_n hx hb d_O_quotaOf_3 rfl (lv_at hl 1 rfl) ?_
  refine lv_iadd hx hb d_O_quotaOf_4 ?_
  exact yr_i hx hb hr hlk hW hP d_O_quotaOf_5
theorem d_Q_set_0 : decode cc_Q_set 0 = .ok (.aload_n 0, 1) := by decide +kernel
theorem d_Q_set_1 : decode cc_Q_set 1 = .ok (.getfield 9, 3) := by decide +kernel
theorem d_Q_set_4 : decode cc_Q_set 4 = .ok (.iload_n 1, 1) := by decide +kernel
theorem d_Q_set_5 : decode cc_Q_set 5 = .ok (.iload_n 2, 1) := by decide +kernel
theorem d_Q_set_6 : decode cc_Q_set 6 = .ok (.iastore, 1) := by decide +kernel
theorem d_Q_set_7 : decode cc_Q_set 7 = .ok (.aload_n 0, 1) := by decide +kernel
theorem d_Q_set_8 : decode cc_Q_set 8 = .ok (.getfield 15, 3) := by decide +kernel
theorem d_Q_set_11 : decode cc_Q_set 11 = .ok (.iload_n 1, 1) := by decide +kernel
theorem d_Q_set_12 : decode cc_Q_set 12 = .ok (.iload_n 3, 1) := by decide +kernel
theorem d_Q_set_13 : decode cc_Q_set 13 = .ok (.iastore, 1) := by decide +kernel
theorem d_Q_set_14 : decode cc_Q_set 14 = .ok (.return_, 1) := by decide +kernel
def P_Q_set (a1 : Int32) (a2 : Int32) (a3 : Int32) (z0 : St) (Q : St → Prop) : Prop := vp_in a1 12 ∧ ∀ z1 : St, z1 = wI z0 7 a1.toNatClampNeg a2 → vp_in a1 12 ∧ ∀ z2 : St, z2 = wI z1 8 a1.toNatClampNeg a3 → Q z2
set_option maxHeartbeats 4000000 in
set_option maxRecDepth 100000 in
theorem c_Q_set {l : Launch} {G : GG} (a1 : Int32) (a2 : Int32) (a3 : Int32) (z0 : St) (Q : St → Prop) (hP : P_Q_set a1 a2 a3 z0 Q) : Ctv l y_Q_set cc_Q_set 4 none rm_Q_set G [.ref (ha G 6), .int a1, .int a2, .int a3] z0 Q := by
  refine Ctv.op (own := R_Q) (by decide) rfl (Nat.le_of_ble_eq_true rfl) (fun p e s m args below meth c ls E hl hW => ?_)
  obtain ⟨hx, hb, hml, hown, hr, hlk, hex, hE⟩ := id E
  have hl : lv_has ls 4 [(0, .ref (ha G 6)), (1, .int a1), (2, .int a2), (3, .int a3)] := hl
  refine lv_aload_n hx hb d_Q_set_0 rfl (lv_at hl 0 rfl) ?_
  refine ygf_6_0 hx hb hown hE hW (lk_Q_9 hE) d_Q_set_1 ?_
  refine lv_iload_n hx hb d_Q_set_4 rfl (lv_at hl 1 rfl) ?_
  refine lv_iload_n hx hb d_Q_set_5 rfl (lv_at hl 2 rfl) ?_
  refine ys_7 hx hb hE hW hP.1 d_Q_set_6 (fun z1 H locs e_z1 hW => ?_)
  have hP := hP.2
  have hP := hP z1 e_z1
  refine lv_aload_n hx hb d_Q_set_7 rfl (lv_at hl 0 rfl) ?_
  refine ygf_6_1 hx hb hown hE hW (lk_Q_15 hE) d_Q_set_8 ?_
  refine lv_iload_n hx hb d_Q_set_11 rfl (lv_at hl 1 rfl) ?_
  refine lv_iload_n hx hb d_Q_set_12 rfl (lv_at hl 3 rfl) ?_
  refine ys_8 hx hb hE hW hP.1 d_Q_set_13 (fun z2 H locs e_z2 hW => ?_)
  have hP := hP.2
  have hP := hP z2 e_z2
  exact yr_v hx hb hr hlk hW hP d_Q_set_14
theorem d_O_quota_0 : decode cc_O_quota 0 = .ok (.aload_n 0, 1) := by decide +kernel
theorem d_O_quota_1 : decode cc_O_quota 1 = .ok (.getfield 12, 3) := by decide +kernel
theorem d_O_quota_4 : decode cc_O_quota 4 = .ok (.iload_n 1, 1) := by decide +kernel
theorem d_O_quota_5 : decode cc_O_quota 5 = .ok (.iload_n 2, 1) := by decide +kernel
theorem d_O_quota_6 : decode cc_O_quota 6 = .ok (.invokevirtual 103, 3) := by decide +kernel
theorem d_O_quota_9 : decode cc_O_quota 9 = .ok (.ifCond .eq 20, 3) := by decide +kernel
theorem d_O_quota_12 : decode cc_O_quota 12 = .ok (.iload_n 3, 1) := by decide +kernel
theorem d_O_quota_13 : decode cc_O_quota 13 = .ok (.ifCond .lt 16, 3) := by decide +kernel
theorem d_O_quota_16 : decode cc_O_quota 16 = .ok (.iload_n 3, 1) := by decide +kernel
theorem d_O_quota_17 : decode cc_O_quota 17 = .ok (.iload 4, 2) := by decide +kernel
theorem d_O_quota_19 : decode cc_O_quota 19 = .ok (.if_icmp .gt 10, 3) := by decide +kernel
theorem d_O_quota_22 : decode cc_O_quota 22 = .ok (.iload 4, 2) := by decide +kernel
theorem d_O_quota_24 : decode cc_O_quota 24 = .ok (.bipush 8, 2) := by decide +kernel
theorem d_O_quota_26 : decode cc_O_quota 26 = .ok (.if_icmp .le 13, 3) := by decide +kernel
theorem d_O_quota_29 : decode cc_O_quota 29 = .ok (.new 87, 3) := by decide +kernel
theorem d_O_quota_32 : decode cc_O_quota 32 = .ok (.dup, 1) := by decide +kernel
theorem d_O_quota_33 : decode cc_O_quota 33 = .ok (.ldc 125, 2) := by decide +kernel
theorem d_O_quota_35 : decode cc_O_quota 35 = .ok (.invokespecial 91, 3) := by decide +kernel
theorem d_O_quota_38 : decode cc_O_quota 38 = .ok (.athrow, 1) := by decide +kernel
theorem d_O_quota_39 : decode cc_O_quota 39 = .ok (.aload_n 0, 1) := by decide +kernel
theorem d_O_quota_40 : decode cc_O_quota 40 = .ok (.invokevirtual 94, 3) := by decide +kernel
theorem d_O_quota_43 : decode cc_O_quota 43 = .ok (.aload_n 0, 1) := by decide +kernel
theorem d_O_quota_44 : decode cc_O_quota 44 = .ok (.getfield 19, 3) := by decide +kernel
theorem d_O_quota_47 : decode cc_O_quota 47 = .ok (.iload_n 1, 1) := by decide +kernel
theorem d_O_quota_48 : decode cc_O_quota 48 = .ok (.iload_n 2, 1) := by decide +kernel
theorem d_O_quota_49 : decode cc_O_quota 49 = .ok (.invokestatic 127, 3) := by decide +kernel
theorem d_O_quota_52 : decode cc_O_quota 52 = .ok (.iload_n 3, 1) := by decide +kernel
theorem d_O_quota_53 : decode cc_O_quota 53 = .ok (.iload 4, 2) := by decide +kernel
theorem d_O_quota_55 : decode cc_O_quota 55 = .ok (.invokevirtual 131, 3) := by decide +kernel
theorem d_O_quota_58 : decode cc_O_quota 58 = .ok (.aload_n 0, 1) := by decide +kernel
theorem d_O_quota_59 : decode cc_O_quota 59 = .ok (.invokevirtual 100, 3) := by decide +kernel
theorem d_O_quota_62 : decode cc_O_quota 62 = .ok (.return_, 1) := by decide +kernel
def P_O_quota (a1 : Int32) (a2 : Int32) (a3 : Int32) (a4 : Int32) (z0 : St) (Q : St → Prop) (X : Nat → St → Prop) : Prop := P_P_hasValue a1 a2 z0 (fun (x2 : Int32) (z1 : St) => ((x2 = 0) → X 0 z1) ∧ ((¬ x2 = 0) → ((a3 < 0) → X 0 z1) ∧ ((¬ a3 < 0) → ((a4 < a3) → X 0 z1) ∧ ((¬ a4 < a3) → ((a4 ≤ (8 : Int32)) → P_O_requireOpen z1 (fun (z3 : St) => P_O_quotaOf a1 a2 z3 (fun (x5 : Int32) (z4 : St) => P_Q_set x5 a3 a4 z4 (fun (z6 : St) => P_O_changed z6 (fun (z7 : St) => Q z7)))) X) ∧ ((¬ a4 ≤ (8 : Int32)) → X 0 z1)))))
set_option maxHeartbeats 4000000 in
set_option maxRecDepth 100000 in
theorem c_O_quota {l : Launch} {G : GG} (a1 : Int32) (a2 : Int32) (a3 : Int32) (a4 : Int32) (z0 : St) (Q : St → Prop) (X : Nat → St → Prop) (hP : P_O_quota a1 a2 a3 a4 z0 Q X) : CtvX l y_O_quota cc_O_quota 5 none rm_O_quota G [.ref (ha G 0), .int a1, .int a2, .int a3, .int a4] z0 Q X := by
  refine CtvX.op (own := R_O) (by decide) rfl (Nat.le_of_ble_eq_true rfl) (fun p e s m args below meth c ls E hl hW => ?_)
  obtain ⟨hx, hb, hml, hown, hr, hlk, hex, hE⟩ := id E
  have hl : lv_has ls 5 [(0, .ref (ha G 0)), (1, .int a1), (2, .int a2), (3, .int a3), (4, .int a4)] := hl
  refine lv_aload_n hx hb d_O_quota_0 rfl (lv_at hl 0 rfl) ?_
  refine ygf_0_0 hx hb hown hE hW (lk_O_12 hE) d_O_quota_1 ?_
  refine lv_iload_n hx hb d_O_quota_4 rfl (lv_at hl 1 rfl) ?_
  refine lv_iload_n hx hb d_O_quota_5 rfl (lv_at hl 2 rfl) ?_
  refine yc_i (yV (As := [.int a1, .int a2]) (rest := []) E (c_P_hasValue _ _ _ _ hP) (cw_O_103 hE) (yrv_1 hE hW) (by decide) hW hl.1 rfl rfl rfl d_O_quota_6) hW (fun x2 z1 H locs hP hW => ?_)
  refine lv_if_eq (tgt := 29) hx hb d_O_quota_9 rfl (fun hc => ?_) (fun hc => ?_)
  · have hP := hP.1 hc
    exact yt (k := 0) hx hb hown hlk hex hE hW hl.1 hml (by decide) (by decide) (fun _ h => lt_O_0_125 h) d_O_quota_29 d_O_quota_32 (Or.inl ⟨d_O_quota_33, rfl⟩) d_O_quota_35 d_O_quota_38 hP (fun _ _ h1 h2 => Or.inr ⟨h1, h2⟩)
  · have hP := hP.2 hc
    refine lv_iload_n hx hb d_O_quota_12 rfl (lv_at hl 3 rfl) ?_
    refine lv_if_lt (tgt := 29) hx hb d_O_quota_13 rfl (fun hc => ?_) (fun hc => ?_)
    · have hP := hP.1 hc
      exact yt (k := 0) hx hb hown hlk hex hE hW hl.1 hml (by decide) (by decide) (fun _ h => lt_O_0_125 h) d_O_quota_29 d_O_quota_32 (Or.inl ⟨d_O_quota_33, rfl⟩) d_O_quota_35 d_O_quota_38 hP (fun _ _ h1 h2 => Or.inr ⟨h1, h2⟩)
    · have hP := hP.2 hc
      refine lv_iload_n hx hb d_O_quota_16 rfl (lv_at hl 3 rfl) ?_
      refine lv_iload hx hb d_O_quota_17 (lv_at hl 4 rfl) ?_
      refine lv_icmp_gt (tgt := 29) hx hb d_O_quota_19 rfl (fun hc => ?_) (fun hc => ?_)
      · have hP := hP.1 hc
        exact yt (k := 0) hx hb hown hlk hex hE hW hl.1 hml (by decide) (by decide) (fun _ h => lt_O_0_125 h) d_O_quota_29 d_O_quota_32 (Or.inl ⟨d_O_quota_33, rfl⟩) d_O_quota_35 d_O_quota_38 hP (fun _ _ h1 h2 => Or.inr ⟨h1, h2⟩)
      · have hP := hP.2 hc
        refine lv_iload hx hb d_O_quota_22 (lv_at hl 4 rfl) ?_
        refine lv_bipush (v := 8) hx hb d_O_quota_24 (by decide) ?_
        refine lv_icmp_le (tgt := 39) hx hb d_O_quota_26 rfl (fun hc => ?_) (fun hc => ?_)
        · have hP := hP.1 hc
          refine lv_aload_n hx hb d_O_quota_39 rfl (lv_at hl 0 rfl) ?_
          refine yx_v (yVX (As := []) (rest := []) E (c_O_requireOpen _ _ _ hP) (cw_O_94 hE) (yrv_0 hE hW) (by decide) hW hl.1 rfl rfl rfl d_O_quota_40) hW (fun z3 H locs hP hW => ?_) hlk hex (fun _ _ h1 h2 => Or.inr ⟨h1, h2⟩)
          refine lv_aload_n hx hb d_O_quota_43 rfl (lv_at hl 0 rfl) ?_
          refine ygf_0_1 hx hb hown hE hW (lk_O_19 hE) d_O_quota_44 ?_
          refine lv_iload_n hx hb d_O_quota_47 rfl (lv_at hl 1 rfl) ?_
          refine lv_iload_n hx hb d_O_quota_48 rfl (lv_at hl 2 rfl) ?_
          refine yc_i (yS (As := [.int a1, .int a2]) (rest := [.ref (ha G 6)]) E (c_O_quotaOf _ _ _ _ hP) (cw_O_127 hE) (by decide) hW hl.1 rfl rfl rfl d_O_quota_49) hW (fun x5 z4 H locs hP hW => ?_)
          refine lv_iload_n hx hb d_O_quota_52 rfl (lv_at hl 3 rfl) ?_
          refine lv_iload hx hb d_O_quota_53 (lv_at hl 4 rfl) ?_
          refine yc_v (yV (As := [.int x5, .int a3, .int a4]) (rest := []) E (c_Q_set _ _ _ _ _ hP) (cw_O_131 hE) (yrv_6 hE hW) (by decide) hW hl.1 rfl rfl rfl d_O_quota_55) hW (fun z6 H locs hP hW => ?_)
          refine lv_aload_n hx hb d_O_quota_58 rfl (lv_at hl 0 rfl) ?_
          refine yc_v (yV (As := []) (rest := []) E (c_O_changed _ _ hP) (cw_O_100 hE) (yrv_0 hE hW) (by decide) hW hl.1 rfl rfl rfl d_O_quota_59) hW (fun z7 H locs hP hW => ?_)
          exact yr_vX hx hb hr hlk hW hP d_O_quota_62
        · have hP := hP.2 hc
          exact yt (k := 0) hx hb hown hlk hex hE hW hl.1 hml (by decide) (by decide) (fun _ h => lt_O_0_125 h) d_O_quota_29 d_O_quota_32 (Or.inl ⟨d_O_quota_33, rfl⟩) d_O_quota_35 d_O_quota_38 hP (fun _ _ h1 h2 => Or.inr ⟨h1, h2⟩)
theorem d_O_size_0 : decode cc_O_size 0 = .ok (.iload_n 1, 1) := by decide +kernel
theorem d_O_size_1 : decode cc_O_size 1 = .ok (.iconst 1, 1) := by decide +kernel
theorem d_O_size_2 : decode cc_O_size 2 = .ok (.if_icmp .lt 9, 3) := by decide +kernel
theorem d_O_size_5 : decode cc_O_size 5 = .ok (.iload_n 1, 1) := by decide +kernel
theorem d_O_size_6 : decode cc_O_size 6 = .ok (.bipush 8, 2) := by decide +kernel
theorem d_O_size_8 : decode cc_O_size 8 = .ok (.if_icmp .le 13, 3) := by decide +kernel
theorem d_O_size_11 : decode cc_O_size 11 = .ok (.new 87, 3) := by decide +kernel
theorem d_O_size_14 : decode cc_O_size 14 = .ok (.dup, 1) := by decide +kernel
theorem d_O_size_15 : decode cc_O_size 15 = .ok (.ldc 135, 2) := by decide +kernel
theorem d_O_size_17 : decode cc_O_size 17 = .ok (.invokespecial 91, 3) := by decide +kernel
theorem d_O_size_20 : decode cc_O_size 20 = .ok (.athrow, 1) := by decide +kernel
theorem d_O_size_21 : decode cc_O_size 21 = .ok (.aload_n 0, 1) := by decide +kernel
theorem d_O_size_22 : decode cc_O_size 22 = .ok (.invokevirtual 94, 3) := by decide +kernel
theorem d_O_size_25 : decode cc_O_size 25 = .ok (.aload_n 0, 1) := by decide +kernel
theorem d_O_size_26 : decode cc_O_size 26 = .ok (.iload_n 1, 1) := by decide +kernel
theorem d_O_size_27 : decode cc_O_size 27 = .ok (.putfield 68, 3) := by decide +kernel
theorem d_O_size_30 : decode cc_O_size 30 = .ok (.aload_n 0, 1) := by decide +kernel
theorem d_O_size_31 : decode cc_O_size 31 = .ok (.invokevirtual 100, 3) := by decide +kernel
theorem d_O_size_34 : decode cc_O_size 34 = .ok (.return_, 1) := by decide +kernel
def P_O_size (a1 : Int32) (z0 : St) (Q : St → Prop) (X : Nat → St → Prop) : Prop := ((a1 < (1 : Int32)) → X 0 z0) ∧ ((¬ a1 < (1 : Int32)) → ((a1 ≤ (8 : Int32)) → P_O_requireOpen z0 (fun (z1 : St) => ∀ z2 : St, z2 = wI z1 0 8 a1 → P_O_changed z2 (fun (z3 : St) => Q z3)) X) ∧ ((¬ a1 ≤ (8 : Int32)) → X 0 z0))
set_option maxHeartbeats 4000000 in
set_option maxRecDepth 100000 in
theorem c_O_size {l : Launch} {G : GG} (a1 : Int32) (z0 : St) (Q : St → Prop) (X : Nat → St → Prop) (hP : P_O_size a1 z0 Q X) : CtvX l y_O_size cc_O_size 2 none rm_O_size G [.ref (ha G 0), .int a1] z0 Q X := by
  refine CtvX.op (own := R_O) (by decide) rfl (Nat.le_of_ble_eq_true rfl) (fun p e s m args below meth c ls E hl hW => ?_)
  obtain ⟨hx, hb, hml, hown, hr, hlk, hex, hE⟩ := id E
  have hl : lv_has ls 2 [(0, .ref (ha G 0)), (1, .int a1)] := hl
  refine lv_iload_n hx hb d_O_size_0 rfl (lv_at hl 1 rfl) ?_
  refine lv_iconst (v := 1) hx hb d_O_size_1 (by decide) ?_
  refine lv_icmp_lt (tgt := 11) hx hb d_O_size_2 rfl (fun hc => ?_) (fun hc => ?_)
  · have hP := hP.1 hc
    exact yt (k := 0) hx hb hown hlk hex hE hW hl.1 hml (by decide) (by decide) (fun _ h => lt_O_0_135 h) d_O_size_11 d_O_size_14 (Or.inl ⟨d_O_size_15, rfl⟩) d_O_size_17 d_O_size_20 hP (fun _ _ h1 h2 => Or.inr ⟨h1, h2⟩)
  · have hP := hP.2 hc
    refine lv_iload_n hx hb d_O_size_5 rfl (lv_at hl 1 rfl) ?_
    refine lv_bipush (v := 8) hx hb d_O_size_6 (by decide) ?_
    refine lv_icmp_le (tgt := 21) hx hb d_O_size_8 rfl (fun hc => ?_) (fun hc => ?_)
    · have hP := hP.1 hc
      refine lv_aload_n hx hb d_O_size_21 rfl (lv_at hl 0 rfl) ?_
      refine yx_v (yVX (As := []) (rest := []) E (c_O_requireOpen _ _ _ hP) (cw_O_94 hE) (yrv_0 hE hW) (by decide) hW hl.1 rfl rfl rfl d_O_size_22) hW (fun z1 H locs hP hW => ?_) hlk hex (fun _ _ h1 h2 => Or.inr ⟨h1, h2⟩)
      refine lv_aload_n hx hb d_O_size_25 rfl (lv_at hl 0 rfl) ?_
      refine lv_iload_n hx hb d_O_size_26 rfl (lv_at hl 1 rfl) ?_
      refine ypf_0_8 hx hb hown hE hW (lk_O_68 hE) d_O_size_27 (fun z2 H locs e_z2 hW => ?_)
      have hP := hP z2 e_z2
      refine lv_aload_n hx hb d_O_size_30 rfl (lv_at hl 0 rfl) ?_
      refine yc_v (yV (As := []) (rest := []) E (c_O_changed _ _ hP) (cw_O_100 hE) (yrv_0 hE hW) (by decide) hW hl.1 rfl rfl rfl d_O_size_31) hW (fun z3 H locs hP hW => ?_)
      exact yr_vX hx hb hr hlk hW hP d_O_size_34
    · have hP := hP.2 hc
      exact yt (k := 0) hx hb hown hlk hex hE hW hl.1 hml (by decide) (by decide) (fun _ h => lt_O_0_135 h) d_O_size_11 d_O_size_14 (Or.inl ⟨d_O_size_15, rfl⟩) d_O_size_17 d_O_size_20 hP (fun _ _ h1 h2 => Or.inr ⟨h1, h2⟩)
theorem d_A_fill2_0 : decode cc_A_fill2 0 = .ok (.iconst 0, 1) := by decide +kernel
theorem d_A_fill2_1 : decode cc_A_fill2 1 = .ok (.istore_n 2, 1) := by decide +kernel
theorem d_A_fill2_2 : decode cc_A_fill2 2 = .ok (.aload_n 0, 1) := by decide +kernel
theorem d_A_fill2_3 : decode cc_A_fill2 3 = .ok (.arraylength, 1) := by decide +kernel
theorem d_A_fill2_4 : decode cc_A_fill2 4 = .ok (.istore_n 3, 1) := by decide +kernel
theorem d_A_fill2_5 : decode cc_A_fill2 5 = .ok (.iload_n 2, 1) := by decide +kernel
theorem d_A_fill2_6 : decode cc_A_fill2 6 = .ok (.iload_n 3, 1) := by decide +kernel
theorem d_A_fill2_7 : decode cc_A_fill2 7 = .ok (.if_icmp .ge 13, 3) := by decide +kernel
theorem d_A_fill2_10 : decode cc_A_fill2 10 = .ok (.aload_n 0, 1) := by decide +kernel
theorem d_A_fill2_11 : decode cc_A_fill2 11 = .ok (.iload_n 2, 1) := by decide +kernel
theorem d_A_fill2_12 : decode cc_A_fill2 12 = .ok (.iload_n 1, 1) := by decide +kernel
theorem d_A_fill2_13 : decode cc_A_fill2 13 = .ok (.iastore, 1) := by decide +kernel
theorem d_A_fill2_14 : decode cc_A_fill2 14 = .ok (.iinc 2 1, 3) := by decide +kernel
theorem d_A_fill2_17 : decode cc_A_fill2 17 = .ok (.goto (-12), 3) := by decide +kernel
theorem d_A_fill2_20 : decode cc_A_fill2 20 = .ok (.return_, 1) := by decide +kernel
def L_A_fill_5 (Q : St → Prop) : Nat → Int32 → Int32 → Int32 → St → Prop
  | 0, _, _, _, _ => False
  | n + 1, v1, v2, v3, z0 => ((v3 ≤ v2) → Q z0) ∧ ((¬ v3 ≤ v2) → vp_in v2 2048 ∧ ∀ z1 : St, z1 = wI z0 16 v2.toNatClampNeg v1 → ∀ x2 : Int32, x2 = v2 + 1 → L_A_fill_5 Q n v1 x2 v3 z1)
def P_A_fill (a1 : Int32) (z0 : St) (Q : St → Prop) : Prop := ∃ k5 : Nat, L_A_fill_5 Q k5 a1 (0 : Int32) (2048 : Int32) z0
set_option maxHeartbeats 4000000 in
set_option maxRecDepth 100000 in
theorem wL_A_fill_5 {Q : St → Prop} (E : En p l s m meth c args cc_A_fill2 4 R_A none G) :
    ∀ (n : Nat) (v1 : Int32) (v2 : Int32) (v3 : Int32) (z0 : St) (ls : Array Slot) (H : Heap) (locs : List Loc), L_A_fill_5 Q n v1 v2 v3 z0 → lv_has ls 4 [(0, .ref (ha G 16)), (1, .int v1), (2, .int v2), (3, .int v3)] → Wd G z0 s.heap H locs → W p l e rm_A_fill s m args below meth c H locs 0 0 (MQ below (QvR Q G) args s 0 0 (fr G)) (F0 m 5 ls []) := by
  obtain ⟨hx, hb, hml, hown, hr, hlk, hex, hE⟩ := id E
  intro n
  induction n with
  | zero => exact fun _ _ _ _ _ _ _ hP _ _ => hP.elim
  | succ n ih =>
    intro v1 v2 v3 z0 ls H locs hP hl hW
    refine lv_iload_n hx hb d_A_fill2_5 rfl (lv_at hl 2 rfl) ?_
    refine lv_iload_n hx hb d_A_fill2_6 rfl (lv_at hl 3 rfl) ?_
    refine lv_icmp_ge (tgt := 20) hx hb d_A_fill2_7 rfl (fun hc => ?_) (fun hc => ?_)
    · have hP := hP.1 hc
      exact yr_v hx hb hr hlk hW hP d_A_fill2_20
    · have hP := hP.2 hc
      refine lv_aload_n hx hb d_A_fill2_10 rfl (lv_at hl 0 rfl) ?_
      refine lv_iload_n hx hb d_A_fill2_11 rfl (lv_at hl 2 rfl) ?_
      refine lv_iload_n hx hb d_A_fill2_12 rfl (lv_at hl 1 rfl) ?_
      refine ys_16 hx hb hE hW hP.1 d_A_fill2_13 (fun z1 H locs e_z1 hW => ?_)
      have hP := hP.2
      have hP := hP z1 e_z1
      obtain ⟨x2, e_x2⟩ : ∃ z : Int32, z = v2 + 1 := ⟨_, rfl⟩
      have hP := hP x2 e_x2
      refine lv_iinc (k := 2) (lv' := [(2, .int x2), (0, .ref (ha G 16)), (1, .int v1), (3, .int v3)]) hx hb d_A_fill2_14 hl rfl (ii_p1 e_x2) (by decide) rfl (fun ls hl => ?_)
      refine lv_goto (tgt := 5) hx hb d_A_fill2_17 rfl ?_
      exact ih _ _ _ _ _ _ _ hP (lv_sub hl [1, 2, 0, 3] rfl) hW
set_option maxHeartbeats 4000000 in
set_option maxRecDepth 100000 in
theorem c_A_fill {l : Launch} {G : GG} (a1 : Int32) (z0 : St) (Q : St → Prop) (hP : P_A_fill a1 z0 Q) : Ctv l y_A_fill2 cc_A_fill2 4 none rm_A_fill G [.ref (ha G 16), .int a1] z0 Q := by
  refine Ctv.op (own := R_A) (by decide) rfl (Nat.le_of_ble_eq_true rfl) (fun p e s m args below meth c ls E hl hW => ?_)
  obtain ⟨hx, hb, hml, hown, hr, hlk, hex, hE⟩ := id E
  have hl : lv_has ls 4 [(0, .ref (ha G 16)), (1, .int a1)] := hl
  refine lv_iconst (v := 0) hx hb d_A_fill2_0 (by decide) ?_
  refine lv_istore_n (lv' := [(2, .int (0 : Int32)), (0, .ref (ha G 16)), (1, .int a1)]) hx hb d_A_fill2_1 rfl hl (by decide) rfl (fun ls hl => ?_)
  refine lv_aload_n hx hb d_A_fill2_2 rfl (lv_at hl 1 rfl) ?_
  refine yn_16 hx hb hE hW d_A_fill2_3 ?_
  refine lv_istore_n (lv' := [(3, .int (2048 : Int32)), (2, .int (0 : Int32)), (0, .ref (ha G 16)), (1, .int a1)]) hx hb d_A_fill2_4 rfl hl (by decide) rfl (fun ls hl => ?_)
  obtain ⟨n2, hP⟩ := hP
  refine wL_A_fill_5 E n2 _ _ _ _ _ _ _ hP (lv_sub hl [2, 3, 1, 0] rfl) hW
theorem d_T_enter_0 : decode cc_T_enter 0 = .ok (.aload_n 0, 1) := by decide +kernel
theorem d_T_enter_1 : decode cc_T_enter 1 = .ok (.getfield 40, 3) := by decide +kernel
theorem d_T_enter_4 : decode cc_T_enter 4 = .ok (.sipush 1001, 3) := by decide +kernel
theorem d_T_enter_7 : decode cc_T_enter 7 = .ok (.if_icmp .lt 10, 3) := by decide +kernel
theorem d_T_enter_10 : decode cc_T_enter 10 = .ok (.aload_n 0, 1) := by decide +kernel
theorem d_T_enter_11 : decode cc_T_enter 11 = .ok (.iconst 1, 1) := by decide +kernel
theorem d_T_enter_12 : decode cc_T_enter 12 = .ok (.putfield 44, 3) := by decide +kernel
theorem d_T_enter_15 : decode cc_T_enter 15 = .ok (.iconst 0, 1) := by decide +kernel
theorem d_T_enter_16 : decode cc_T_enter 16 = .ok (.ireturn, 1) := by decide +kernel
theorem d_T_enter_17 : decode cc_T_enter 17 = .ok (.aload_n 0, 1) := by decide +kernel
theorem d_T_enter_18 : decode cc_T_enter 18 = .ok (.getfield 31, 3) := by decide +kernel
theorem d_T_enter_21 : decode cc_T_enter 21 = .ok (.iload_n 3, 1) := by decide +kernel
theorem d_T_enter_22 : decode cc_T_enter 22 = .ok (.aload_n 0, 1) := by decide +kernel
theorem d_T_enter_23 : decode cc_T_enter 23 = .ok (.getfield 40, 3) := by decide +kernel
theorem d_T_enter_26 : decode cc_T_enter 26 = .ok (.iastore, 1) := by decide +kernel
theorem d_T_enter_27 : decode cc_T_enter 27 = .ok (.aload_n 0, 1) := by decide +kernel
theorem d_T_enter_28 : decode cc_T_enter 28 = .ok (.getfield 11, 3) := by decide +kernel
theorem d_T_enter_31 : decode cc_T_enter 31 = .ok (.aload_n 0, 1) := by decide +kernel
theorem d_T_enter_32 : decode cc_T_enter 32 = .ok (.getfield 40, 3) := by decide +kernel
theorem d_T_enter_35 : decode cc_T_enter 35 = .ok (.lload_n 1, 1) := by decide +kernel
theorem d_T_enter_36 : decode cc_T_enter 36 = .ok (.lastore, 1) := by decide +kernel
theorem d_T_enter_37 : decode cc_T_enter 37 = .ok (.aload_n 0, 1) := by decide +kernel
theorem d_T_enter_38 : decode cc_T_enter 38 = .ok (.getfield 22, 3) := by decide +kernel
theorem d_T_enter_41 : decode cc_T_enter 41 = .ok (.aload_n 0, 1) := by decide +kernel
theorem d_T_enter_42 : decode cc_T_enter 42 = .ok (.getfield 40, 3) := by decide +kernel
theorem d_T_enter_45 : decode cc_T_enter 45 = .ok (.iconst (-1), 1) := by decide +kernel
theorem d_T_enter_46 : decode cc_T_enter 46 = .ok (.iastore, 1) := by decide +kernel
theorem d_T_enter_47 : decode cc_T_enter 47 = .ok (.aload_n 0, 1) := by decide +kernel
theorem d_T_enter_48 : decode cc_T_enter 48 = .ok (.dup, 1) := by decide +kernel
theorem d_T_enter_49 : decode cc_T_enter 49 = .ok (.getfield 40, 3) := by decide +kernel
theorem d_T_enter_52 : decode cc_T_enter 52 = .ok (.dup_x1, 1) := by decide +kernel
theorem d_T_enter_53 : decode cc_T_enter 53 = .ok (.iconst 1, 1) := by decide +kernel
theorem d_T_enter_54 : decode cc_T_enter 54 = .ok (.iadd, 1) := by decide +kernel
theorem d_T_enter_55 : decode cc_T_enter 55 = .ok (.putfield 40, 3) := by decide +kernel
theorem d_T_enter_58 : decode cc_T_enter 58 = .ok (.ireturn, 1) := by decide +kernel
def P_T_enter (a1 : Int64) (a3 : Int32) (z0 : St) (Q : Int32 → St → Prop) : Prop := (((z0.1 9 10) < (1001 : Int32)) → vp_in a3 2048 ∧ ∀ z1 : St, z1 = wI z0 16 a3.toNatClampNeg (z0.1 9 10) → vp_in (z1.1 9 10) 1001 ∧ ∀ z2 : St, z2 = wL z1 10 (z1.1 9 10).toNatClampNeg a1 → vp_in (z2.1 9 10) 1001 ∧ ∀ z3 : St, z3 = wI z2 13 (z2.1 9 10).toNatClampNeg (-1 : Int32) → ∀ z4 : St, z4 = wI z3 9 10 ((z3.1 9 10) + (1 : Int32)) → Q (z3.1 9 10) z4) ∧ ((¬ (z0.1 9 10) < (1001 : Int32)) → ∀ z5 : St, z5 = wI z0 9 11 (1 : Int32) → Q (0 : Int32) z5)
set_option maxHeartbeats 4000000 in
set_option maxRecDepth 100000 in
theorem c_T_enter {l : Launch} {G : GG} (a1 : Int64) (a3 : Int32) (z0 : St) (Q : Int32 → St → Prop) (hP : P_T_enter a1 a3 z0 Q) : Cti l y_T_enter cc_T_enter 4 (some .int) rm_T_enter G [.ref (ha G 9), .long a1, .int a3] z0 Q := by
  refine Cti.op (own := R_T) (by decide) rfl (Nat.le_of_ble_eq_true rfl) (fun p e s m args below meth c ls E hl hW => ?_)
  obtain ⟨hx, hb, hml, hown, hr, hlk, hex, hE⟩ := id E
  have hl : lv_has ls 4 [(0, .ref (ha G 9)), (1, .long a1), (3, .int a3)] := hl
  refine lv_aload_n hx hb d_T_enter_0 rfl (lv_at hl 0 rfl) ?_
  refine ygf_9_10 hx hb hown hE hW (lk_T_40 hE) d_T_enter_1 ?_
  refine lv_sipush (v := 1001) hx hb d_T_enter_4 (by decide) ?_
  refine lv_icmp_lt (tgt := 17) hx hb d_T_enter_7 rfl (fun hc => ?_) (fun hc => ?_)
  · have hP := hP.1 hc
    refine lv_aload_n hx hb d_T_enter_17 rfl (lv_at hl 0 rfl) ?_
    refine ygf_9_7 hx hb hown hE hW (lk_T_31 hE) d_T_enter_18 ?_
    refine lv_iload_n hx hb d_T_enter_21 rfl (lv_at hl 2 rfl) ?_
    refine lv_aload_n hx hb d_T_enter_22 rfl (lv_at hl 0 rfl) ?_
    refine ygf_9_10 hx hb hown hE hW (lk_T_40 hE) d_T_enter_23 ?_
    refine ys_16 hx hb hE hW hP.1 d_T_enter_26 (fun z1 H locs e_z1 hW => ?_)
    have hP := hP.2
    have hP := hP z1 e_z1
    refine lv_aload_n hx hb d_T_enter_27 rfl (lv_at hl 0 rfl) ?_
    refine ygf_9_1 hx hb hown hE hW (lk_T_11 hE) d_T_enter_28 ?_
    refine lv_aload_n hx hb d_T_enter_31 rfl (lv_at hl 0 rfl) ?_
    refine ygf_9_10 hx hb hown hE hW (lk_T_40 hE) d_T_enter_32 ?_
    refine lv_lload_n hx hb d_T_enter_35 rfl (lv_at hl 1 rfl) ?_
    refine ys_10 hx hb hE hW hP.1 d_T_enter_36 (fun z2 H locs e_z2 hW => ?_)
    have hP := hP.2
    have hP := hP z2 e_z2
    refine lv_aload_n hx hb d_T_enter_37 rfl (lv_at hl 0 rfl) ?_
    refine ygf_9_4 hx hb hown hE hW (lk_T_22 hE) d_T_enter_38 ?_
    refine lv_aload_n hx hb d_T_enter_41 rfl (lv_at hl 0 rfl) ?_
    refine ygf_9_10 hx hb hown hE hW (lk_T_40 hE) d_T_enter_42 ?_
    refine lv_iconst (v := -1) hx hb d_T_enter_45 (by decide) ?_
    refine ys_13 hx hb hE hW hP.1 d_T_enter_46 (fun z3 H locs e_z3 hW => ?_)
    have hP := hP.2
    have hP := hP z3 e_z3
    refine lv_aload_n hx hb d_T_enter_47 rfl (lv_at hl 0 rfl) ?_
    refine lv_dup hx hb d_T_enter_48 rfl ?_
    refine ygf_9_10 hx hb hown hE hW (lk_T_40 hE) d_T_enter_49 ?_
    refine lv_dup_x1 hx hb d_T_enter_52 rfl rfl ?_
    refine lv_iconst (v := 1) hx hb d_T_enter_53 (by decide) ?_
    refine lv_iadd hx hb d_T_enter_54 ?_
    refine ypf_9_10 hx hb hown hE hW (lk_T_40 hE) d_T_enter_55 (fun z4 H locs e_z4 hW => ?_)
    have hP := hP z4 e_z4
    exact yr_i hx hb hr hlk hW hP d_T_enter_58
  · have hP := hP.2 hc
    refine lv_aload_n hx hb d_T_enter_10 rfl (lv_at hl 0 rfl) ?_
    refine lv_iconst (v := 1) hx hb d_T_enter_11 (by decide) ?_
    refine ypf_9_11 hx hb hown hE hW zb_1 (lk_T_44 hE) d_T_enter_12 (fun z5 H locs e_z5 hW => ?_)
    have hP := hP z5 e_z5
    refine lv_iconst (v := 0) hx hb d_T_enter_15 (by decide) ?_
    exact yr_i hx hb hr hlk hW hP d_T_enter_16
theorem d_T_stateOf_0 : decode cc_T_stateOf 0 = .ok (.lload_n 1, 1) := by decide +kernel
theorem d_T_stateOf_1 : decode cc_T_stateOf 1 = .ok (.ldc2_w 124, 3) := by decide +kernel
theorem d_T_stateOf_4 : decode cc_T_stateOf 4 = .ok (.lmul, 1) := by decide +kernel
theorem d_T_stateOf_5 : decode cc_T_stateOf 5 = .ok (.bipush 53, 2) := by decide +kernel
theorem d_T_stateOf_7 : decode cc_T_stateOf 7 = .ok (.lushr, 1) := by decide +kernel
theorem d_T_stateOf_8 : decode cc_T_stateOf 8 = .ok (.l2i, 1) := by decide +kernel
theorem d_T_stateOf_9 : decode cc_T_stateOf 9 = .ok (.istore_n 3, 1) := by decide +kernel
theorem d_T_stateOf_10 : decode cc_T_stateOf 10 = .ok (.iconst 0, 1) := by decide +kernel
theorem d_T_stateOf_11 : decode cc_T_stateOf 11 = .ok (.istore 4, 2) := by decide +kernel
theorem d_T_stateOf_13 : decode cc_T_stateOf 13 = .ok (.iload 4, 2) := by decide +kernel
theorem d_T_stateOf_15 : decode cc_T_stateOf 15 = .ok (.sipush 2048, 3) := by decide +kernel
theorem d_T_stateOf_18 : decode cc_T_stateOf 18 = .ok (.if_icmp .ge 52, 3) := by decide +kernel
theorem d_T_stateOf_21 : decode cc_T_stateOf 21 = .ok (.aload_n 0, 1) := by decide +kernel
theorem d_T_stateOf_22 : decode cc_T_stateOf 22 = .ok (.getfield 31, 3) := by decide +kernel
theorem d_T_stateOf_25 : decode cc_T_stateOf 25 = .ok (.iload_n 3, 1) := by decide +kernel
theorem d_T_stateOf_26 : decode cc_T_stateOf 26 = .ok (.iaload, 1) := by decide +kernel
theorem d_T_stateOf_27 : decode cc_T_stateOf 27 = .ok (.istore 5, 2) := by decide +kernel
theorem d_T_stateOf_29 : decode cc_T_stateOf 29 = .ok (.iload 5, 2) := by decide +kernel
theorem d_T_stateOf_31 : decode cc_T_stateOf 31 = .ok (.ifCond .ge 10, 3) := by decide +kernel
theorem d_T_stateOf_34 : decode cc_T_stateOf 34 = .ok (.aload_n 0, 1) := by decide +kernel
theorem d_T_stateOf_35 : decode cc_T_stateOf 35 = .ok (.lload_n 1, 1) := by decide +kernel
theorem d_T_stateOf_36 : decode cc_T_stateOf 36 = .ok (.iload_n 3, 1) := by decide +kernel
theorem d_T_stateOf_37 : decode cc_T_stateOf 37 = .ok (.invokevirtual 126, 3) := by decide +kernel
theorem d_T_stateOf_40 : decode cc_T_stateOf 40 = .ok (.ireturn, 1) := by decide +kernel
theorem d_T_stateOf_41 : decode cc_T_stateOf 41 = .ok (.aload_n 0, 1) := by decide +kernel
theorem d_T_stateOf_42 : decode cc_T_stateOf 42 = .ok (.getfield 11, 3) := by decide +kernel
theorem d_T_stateOf_45 : decode cc_T_stateOf 45 = .ok (.iload 5, 2) := by decide +kernel
theorem d_T_stateOf_47 : decode cc_T_stateOf 47 = .ok (.laload, 1) := by decide +kernel
theorem d_T_stateOf_48 : decode cc_T_stateOf 48 = .ok (.lload_n 1, 1) := by decide +kernel
theorem d_T_stateOf_49 : decode cc_T_stateOf 49 = .ok (.lcmp, 1) := by decide +kernel
theorem d_T_stateOf_50 : decode cc_T_stateOf 50 = .ok (.ifCond .ne 6, 3) := by decide +kernel
theorem d_T_stateOf_53 : decode cc_T_stateOf 53 = .ok (.iload 5, 2) := by decide +kernel
theorem d_T_stateOf_55 : decode cc_T_stateOf 55 = .ok (.ireturn, 1) := by decide +kernel
theorem d_T_stateOf_56 : decode cc_T_stateOf 56 = .ok (.iload_n 3, 1) := by decide +kernel
theorem d_T_stateOf_57 : decode cc_T_stateOf 57 = .ok (.iconst 1, 1) := by decide +kernel
theorem d_T_stateOf_58 : decode cc_T_stateOf 58 = .ok (.iadd, 1) := by decide +kernel
theorem d_T_stateOf_59 : decode cc_T_stateOf 59 = .ok (.sipush 2047, 3) := by decide +kernel
theorem d_T_stateOf_62 : decode cc_T_stateOf 62 = .ok (.iand, 1) := by decide +kernel
theorem d_T_stateOf_63 : decode cc_T_stateOf 63 = .ok (.istore_n 3, 1) := by decide +kernel
theorem d_T_stateOf_64 : decode cc_T_stateOf 64 = .ok (.iinc 4 1, 3) := by decide +kernel
theorem d_T_stateOf_67 : decode cc_T_stateOf 67 = .ok (.goto (-54), 3) := by decide +kernel
theorem d_T_stateOf_70 : decode cc_T_stateOf 70 = .ok (.iconst 0, 1) := by decide +kernel
theorem d_T_stateOf_71 : decode cc_T_stateOf 71 = .ok (.ireturn, 1) := by decide +kernel
def L_T_stateOf_13 (K34 : Int64 → Int32 → St → Prop) (Q : Int32 → St → Prop) : Nat → Int64 → Int32 → Int32 → St → Prop
  | 0, _, _, _, _ => False
  | n + 1, v1, v3, v4, z0 => (((2048 : Int32) ≤ v4) → Q (0 : Int32) z0) ∧ ((¬ (2048 : Int32) ≤ v4) → vp_in v3 2048 ∧ ∀ x2 : Int32, x2 = (z0.1 16 v3.toNatClampNeg) → ((0 ≤ x2) → vp_in x2 1001 ∧ ((¬ (z0.2 10 x2.toNatClampNeg) = v1) → ∀ x3 : Int32, x3 = (v3 + (1 : Int32)) &&& (2047 : Int32) → ∀ x4 : Int32, x4 = v4 + 1 → L_T_stateOf_13 K34 Q n v1 x3 x4 z0) ∧ (((z0.2 10 x2.toNatClampNeg) = v1) → Q x2 z0)) ∧ ((¬ 0 ≤ x2) → K34 v1 v3 z0))
def P_T_stateOf (a1 : Int64) (z0 : St) (Q : Int32 → St → Prop) : Prop := ∀ x1 : Int32, x1 = (((a1 * (-7046029254386353131 : Int64)).toUInt64 >>> ((53 : Int32).toInt64.toUInt64 &&& Int64.toUInt64 63)).toInt64).toInt32 → ∃ k13 : Nat, L_T_stateOf_13 (fun (x5 : Int64) (x6 : Int32) (z7 : St) => P_T_enter x5 x6 z7 (fun (x9 : Int32) (z8 : St) => Q x9 z8)) Q k13 a1 x1 (0 : Int32) z0
set_option maxHeartbeats 4000000 in
set_option maxRecDepth 100000 in
theorem wL_T_stateOf_13 {K34 : Int64 → Int32 → St → Prop} {Q : Int32 → St → Prop} (E : En p l s m meth c args cc_T_stateOf 6 R_T (some .int) G)
    (hK34 : ∀ (v1 : Int64) (v3 : Int32) (z0 : St) (ls : Array Slot) (H : Heap) (locs : List Loc), K34 v1 v3 z0 → lv_has ls 6 [(0, .ref (ha G 9)), (1, .long v1), (3, .int v3)] → Wd G z0 s.heap H locs → W p l e rm_T_stateOf s m args below meth c H locs 0 0 (MQ below (QiR Q G) args s 0 0 (fr G)) (F0 m 34 ls [])) :
    ∀ (n : Nat) (v1 : Int64) (v3 : Int32) (v4 : Int32) (z0 : St) (ls : Array Slot) (H : Heap) (locs : List Loc), L_T_stateOf_13 K34 Q n v1 v3 v4 z0 → lv_has ls 6 [(0, .ref (ha G 9)), (1, .long v1), (3, .int v3), (4, .int v4)] → Wd G z0 s.heap H locs → W p l e rm_T_stateOf s m args below meth c H locs 0 0 (MQ below (QiR Q G) args s 0 0 (fr G)) (F0 m 13 ls []) := by
  obtain ⟨hx, hb, hml, hown, hr, hlk, hex, hE⟩ := id E
  intro n
  induction n with
  | zero => exact fun _ _ _ _ _ _ _ hP _ _ => hP.elim
  | succ n ih =>
    intro v1 v3 v4 z0 ls H locs hP hl hW
    refine lv_iload hx hb d_T_stateOf_13 (lv_at hl 3 rfl) ?_
    refine lv_sipush (v := 2048) hx hb d_T_stateOf_15 (by decide) ?_
    refine lv_icmp_ge (tgt := 70) hx hb d_T_stateOf_18 rfl (fun hc => ?_) (fun hc => ?_)
    · have hP := hP.1 hc
      refine lv_iconst (v := 0) hx hb d_T_stateOf_70 (by decide) ?_
      exact yr_i hx hb hr hlk hW hP d_T_stateOf_71
    · have hP := hP.2 hc
      refine lv_aload_n hx hb d_T_stateOf_21 rfl (lv_at hl 0 rfl) ?_
      refine ygf_9_7 hx hb hown hE hW (lk_T_31 hE) d_T_stateOf_22 ?_
      refine lv_iload_n hx hb d_T_stateOf_25 rfl (lv_at hl 2 rfl) ?_
      refine ya_16 hx hb hE hW hP.1 d_T_stateOf_26 ?_
      have hP := hP.2
      refine lv_topi (fun x2 e_x2 => ?_)
      have hP := hP x2 e_x2
      refine lv_istore (lv' := [(5, .int x2), (0, .ref (ha G 9)), (1, .long v1), (3, .int v3), (4, .int v4)]) hx hb d_T_stateOf_27 hl (by decide) rfl (fun ls hl => ?_)
      refine lv_iload hx hb d_T_stateOf_29 (lv_at hl 0 rfl) ?_
      refine lv_if_ge (tgt := 41) hx hb d_T_stateOf_31 rfl (fun hc => ?_) (fun hc => ?_)
      · have hP := hP.1 hc
        refine lv_aload_n hx hb d_T_stateOf_41 rfl (lv_at hl 1 rfl) ?_
        refine ygf_9_1 hx hb hown hE hW (lk_T_11 hE) d_T_stateOf_42 ?_
        refine lv_iload hx hb d_T_stateOf_45 (lv_at hl 0 rfl) ?_
        refine ya_10 hx hb hE hW hP.1 d_T_stateOf_47 ?_
        have hP := hP.2
        refine lv_lload_n hx hb d_T_stateOf_48 rfl (lv_at hl 2 rfl) ?_
        refine W.lcmp hx hb d_T_stateOf_49 ?_
        refine lv_if_ne (tgt := 56) hx hb d_T_stateOf_50 rfl (fun hc => ?_) (fun hc => ?_)
        · have hP := hP.1 (lgc_net hc)
          refine lv_iload_n hx hb d_T_stateOf_56 rfl (lv_at hl 3 rfl) ?_
          refine lv_iconst (v := 1) hx hb d_T_stateOf_57 (by decide) ?_
          refine lv_iadd hx hb d_T_stateOf_58 ?_
          refine lv_sipush (v := 2047) hx hb d_T_stateOf_59 (by decide) ?_
          refine lv_iand hx hb d_T_stateOf_62 ?_
          refine lv_topi (fun x3 e_x3 => ?_)
          have hP := hP x3 e_x3
          refine lv_istore_n (lv' := [(3, .int x3), (5, .int x2), (0, .ref (ha G 9)), (1, .long v1), (4, .int v4)]) hx hb d_T_stateOf_63 rfl hl (by decide) rfl (fun ls hl => ?_)
          obtain ⟨x4, e_x4⟩ : ∃ z : Int32, z = v4 + 1 := ⟨_, rfl⟩
          have hP := hP x4 e_x4
          refine lv_iinc (k := 4) (lv' := [(4, .int x4), (3, .int x3), (5, .int x2), (0, .ref (ha G 9)), (1, .long v1)]) hx hb d_T_stateOf_64 hl rfl (ii_p1 e_x4) (by decide) rfl (fun ls hl => ?_)
          refine lv_goto (tgt := 13) hx hb d_T_stateOf_67 rfl ?_
          exact ih _ _ _ _ _ _ _ hP (lv_sub hl [3, 4, 1, 0] rfl) hW
        · have hP := hP.2 (lgc_nef hc)
          refine lv_iload hx hb d_T_stateOf_53 (lv_at hl 0 rfl) ?_
          exact yr_i hx hb hr hlk hW hP d_T_stateOf_55
      · have hP := hP.2 hc
        exact hK34 _ _ _ _ _ _ hP (lv_sub hl [1, 2, 3] rfl) hW
set_option maxHeartbeats 4000000 in
set_option maxRecDepth 100000 in
theorem c_T_stateOf {l : Launch} {G : GG} (a1 : Int64) (z0 : St) (Q : Int32 → St → Prop) (hP : P_T_stateOf a1 z0 Q) : Cti l y_T_stateOf cc_T_stateOf 6 (some .int) rm_T_stateOf G [.ref (ha G 9), .long a1] z0 Q := by
  refine Cti.op (own := R_T) (by decide) rfl (Nat.le_of_ble_eq_true rfl) (fun p e s m args below meth c ls E hl hW => ?_)
  obtain ⟨hx, hb, hml, hown, hr, hlk, hex, hE⟩ := id E
  have hl : lv_has ls 6 [(0, .ref (ha G 9)), (1, .long a1)] := hl
  refine lv_lload_n hx hb d_T_stateOf_0 rfl (lv_at hl 1 rfl) ?_
  refine lv_ldc2 (v := -7046029254386353131) hx hb hown (lk_T_124 hE) d_T_stateOf_1 ?_
  refine lv_lmul hx hb d_T_stateOf_4 ?_
  refine lv_bipush (v := 53) hx hb d_T_stateOf_5 (by decide) ?_
  refine lv_lushr hx hb d_T_stateOf_7 rfl ?_
  refine lv_l2i hx hb d_T_stateOf_8 rfl ?_
  refine lv_topi (fun x1 e_x1 => ?_)
  have hP := hP x1 e_x1
  refine lv_istore_n (lv' := [(3, .int x1), (0, .ref (ha G 9)), (1, .long a1)]) hx hb d_T_stateOf_9 rfl hl (by decide) rfl (fun ls hl => ?_)
  refine lv_iconst (v := 0) hx hb d_T_stateOf_10 (by decide) ?_
  refine lv_istore (lv' := [(4, .int (0 : Int32)), (3, .int x1), (0, .ref (ha G 9)), (1, .long a1)]) hx hb d_T_stateOf_11 hl (by decide) rfl (fun ls hl => ?_)
  obtain ⟨n2, hP⟩ := hP
  refine wL_T_stateOf_13 E ?_ n2 _ _ _ _ _ _ _ hP (lv_sub hl [2, 3, 1, 0] rfl) hW
  · intro x5 x6 z7 ls H locs hP hl hW
    refine lv_aload_n hx hb d_T_stateOf_34 rfl (lv_at hl 0 rfl) ?_
    refine lv_lload_n hx hb d_T_stateOf_35 rfl (lv_at hl 1 rfl) ?_
    refine lv_iload_n hx hb d_T_stateOf_36 rfl (lv_at hl 2 rfl) ?_
    refine yc_i (yV (As := [.long x5, .int x6]) (rest := []) E (c_T_enter _ _ _ _ hP) (cw_T_126 hE) (yrv_9 hE hW) (by decide) hW hl.1 rfl rfl rfl d_T_stateOf_37) hW (fun x9 z8 H locs hP hW => ?_)
    exact yr_i hx hb hr hlk hW hP d_T_stateOf_40
theorem d_T_oneMoreOf_0 : decode cc_T_oneMoreOf 0 = .ok (.ldc2_w 122, 3) := by decide +kernel
theorem d_T_oneMoreOf_3 : decode cc_T_oneMoreOf 3 = .ok (.lstore_n 1, 1) := by decide +kernel
theorem d_T_oneMoreOf_4 : decode cc_T_oneMoreOf 4 = .ok (.iconst 0, 1) := by decide +kernel
theorem d_T_oneMoreOf_5 : decode cc_T_oneMoreOf 5 = .ok (.istore_n 3, 1) := by decide +kernel
theorem d_T_oneMoreOf_6 : decode cc_T_oneMoreOf 6 = .ok (.iload_n 3, 1) := by decide +kernel
theorem d_T_oneMoreOf_7 : decode cc_T_oneMoreOf 7 = .ok (.iconst 3, 1) := by decide +kernel
theorem d_T_oneMoreOf_8 : decode cc_T_oneMoreOf 8 = .ok (.if_icmp .ge 25, 3) := by decide +kernel
theorem d_T_oneMoreOf_11 : decode cc_T_oneMoreOf 11 = .ok (.lload_n 1, 1) := by decide +kernel
theorem d_T_oneMoreOf_12 : decode cc_T_oneMoreOf 12 = .ok (.lconst 1, 1) := by decide +kernel
theorem d_T_oneMoreOf_13 : decode cc_T_oneMoreOf 13 = .ok (.iconst 4, 1) := by decide +kernel
theorem d_T_oneMoreOf_14 : decode cc_T_oneMoreOf 14 = .ok (.iload_n 3, 1) := by decide +kernel
theorem d_T_oneMoreOf_15 : decode cc_T_oneMoreOf 15 = .ok (.iload_n 0, 1) := by decide +kernel
theorem d_T_oneMoreOf_16 : decode cc_T_oneMoreOf 16 = .ok (.iload_n 3, 1) := by decide +kernel
theorem d_T_oneMoreOf_17 : decode cc_T_oneMoreOf 17 = .ok (.invokestatic 111, 3) := by decide +kernel
theorem d_T_oneMoreOf_20 : decode cc_T_oneMoreOf 20 = .ok (.invokestatic 114, 3) := by decide +kernel
theorem d_T_oneMoreOf_23 : decode cc_T_oneMoreOf 23 = .ok (.imul, 1) := by decide +kernel
theorem d_T_oneMoreOf_24 : decode cc_T_oneMoreOf 24 = .ok (.lshl, 1) := by decide +kernel
theorem d_T_oneMoreOf_25 : decode cc_T_oneMoreOf 25 = .ok (.ladd, 1) := by decide +kernel
theorem d_T_oneMoreOf_26 : decode cc_T_oneMoreOf 26 = .ok (.lstore_n 1, 1) := by decide +kernel
theorem d_T_oneMoreOf_27 : decode cc_T_oneMoreOf 27 = .ok (.iinc 3 1, 3) := by decide +kernel
theorem d_T_oneMoreOf_30 : decode cc_T_oneMoreOf 30 = .ok (.goto (-24), 3) := by decide +kernel
theorem d_T_oneMoreOf_33 : decode cc_T_oneMoreOf 33 = .ok (.lload_n 1, 1) := by decide +kernel
theorem d_T_oneMoreOf_34 : decode cc_T_oneMoreOf 34 = .ok (.lreturn, 1) := by decide +kernel
def L_T_oneMoreOf_6 (Q : Int64 → St → Prop) : Nat → Int32 → Int64 → Int32 → St → Prop
  | 0, _, _, _, _ => False
  | n + 1, v0, v1, v3, z0 => (((3 : Int32) ≤ v3) → Q v1 z0) ∧ ((¬ (3 : Int32) ≤ v3) → P_P_valueIn v0 v3 z0 (fun (x2 : Int32) (z1 : St) => P_O_quotaOf v3 x2 z1 (fun (x4 : Int32) (z3 : St) => ∀ x5 : Int64, x5 = v1 + ((1 : Int64) <<< (((4 : Int32) * x4).toInt64 &&& 63)) → ∀ x6 : Int32, x6 = v3 + 1 → L_T_oneMoreOf_6 Q n v0 x5 x6 z3)))
def P_T_oneMoreOf (a0 : Int32) (z0 : St) (Q : Int64 → St → Prop) : Prop := ∃ k6 : Nat, L_T_oneMoreOf_6 Q k6 a0 (281474976710656 : Int64) (0 : Int32) z0
set_option maxHeartbeats 4000000 in
set_option maxRecDepth 100000 in
theorem wL_T_oneMoreOf_6 {Q : Int64 → St → Prop} (E : En p l s m meth c args cc_T_oneMoreOf 4 R_T (some .long) G) :
    ∀ (n : Nat) (v0 : Int32) (v1 : Int64) (v3 : Int32) (z0 : St) (ls : Array Slot) (H : Heap) (locs : List Loc), L_T_oneMoreOf_6 Q n v0 v1 v3 z0 → lv_has ls 4 [(0, .int v0), (1, .long v1), (3, .int v3)] → Wd G z0 s.heap H locs → W p l e rm_T_oneMoreOf s m args below meth c H locs 0 0 (MQ below (QlR Q G) args s 0 0 (fr G)) (F0 m 6 ls []) := by
  obtain ⟨hx, hb, hml, hown, hr, hlk, hex, hE⟩ := id E
  intro n
  induction n with
  | zero => exact fun _ _ _ _ _ _ _ hP _ _ => hP.elim
  | succ n ih =>
    intro v0 v1 v3 z0 ls H locs hP hl hW
    refine lv_iload_n hx hb d_T_oneMoreOf_6 rfl (lv_at hl 2 rfl) ?_
    refine lv_iconst (v := 3) hx hb d_T_oneMoreOf_7 (by decide) ?_
    refine lv_icmp_ge (tgt := 33) hx hb d_T_oneMoreOf_8 rfl (fun hc => ?_) (fun hc => ?_)
    · have hP := hP.1 hc
      refine lv_lload_n hx hb d_T_oneMoreOf_33 rfl (lv_at hl 1 rfl) ?_
      exact yr_l hx hb hr hlk hW hP d_T_oneMoreOf_34
    · have hP := hP.2 hc
      refine lv_lload_n hx hb d_T_oneMoreOf_11 rfl (lv_at hl 1 rfl) ?_
      refine lv_lconst (v := 1) hx hb d_T_oneMoreOf_12 (by decide) ?_
      refine lv_iconst (v := 4) hx hb d_T_oneMoreOf_13 (by decide) ?_
      refine lv_iload_n hx hb d_T_oneMoreOf_14 rfl (lv_at hl 2 rfl) ?_
      refine lv_iload_n hx hb d_T_oneMoreOf_15 rfl (lv_at hl 0 rfl) ?_
      refine lv_iload_n hx hb d_T_oneMoreOf_16 rfl (lv_at hl 2 rfl) ?_
      refine yc_i (yS (As := [.int v0, .int v3]) (rest := [.int v3, .int (4 : Int32), .long (1 : Int64), .long v1]) E (c_P_valueIn _ _ _ _ hP) (cw_T_111 hE) (by decide) hW hl.1 rfl rfl rfl d_T_oneMoreOf_17) hW (fun x2 z1 H locs hP hW => ?_)
      refine yc_i (ySN (As := [.int v3, .int x2]) (rest := [.int (4 : Int32), .long (1 : Int64), .long v1]) E (c_O_quotaOf _ _ _ _ hP) (cw_T_114 hE) (by decide) hW hl.1 rfl rfl rfl d_T_oneMoreOf_20) hW (fun x4 z3 H locs hP hW => ?_)
      refine lv_imul hx hb d_T_oneMoreOf_23 ?_
      refine lv_lshl hx hb d_T_oneMoreOf_24 rfl ?_
      refine lv_ladd hx hb d_T_oneMoreOf_25 ?_
      refine lv_topl (fun x5 e_x5 => ?_)
      have hP := hP x5 e_x5
      refine lv_lstore_n (lv' := [(1, .long x5), (0, .int v0), (3, .int v3)]) hx hb d_T_oneMoreOf_26 rfl hl (by decide) rfl (fun ls hl => ?_)
      obtain ⟨x6, e_x6⟩ : ∃ z : Int32, z = v3 + 1 := ⟨_, rfl⟩
      have hP := hP x6 e_x6
      refine lv_iinc (k := 2) (lv' := [(3, .int x6), (1, .long x5), (0, .int v0)]) hx hb d_T_oneMoreOf_27 hl rfl (ii_p1 e_x6) (by decide) rfl (fun ls hl => ?_)
      refine lv_goto (tgt := 6) hx hb d_T_oneMoreOf_30 rfl ?_
      exact ih _ _ _ _ _ _ _ hP (lv_sub hl [2, 1, 0] rfl) hW
set_option maxHeartbeats 4000000 in
set_option maxRecDepth 100000 in
theorem c_T_oneMoreOf {l : Launch} {G : GG} (a0 : Int32) (z0 : St) (Q : Int64 → St → Prop) (hP : P_T_oneMoreOf a0 z0 Q) : Ctl l y_T_oneMoreOf cc_T_oneMoreOf 4 (some .long) rm_T_oneMoreOf G [.int a0] z0 Q := by
  refine Ctl.op (own := R_T) (by decide) rfl (Nat.le_of_ble_eq_true rfl) (fun p e s m args below meth c ls E hl hW => ?_)
  obtain ⟨hx, hb, hml, hown, hr, hlk, hex, hE⟩ := id E
  have hl : lv_has ls 4 [(0, .int a0)] := hl
  refine lv_ldc2 (v := 281474976710656) hx hb hown (lk_T_122 hE) d_T_oneMoreOf_0 ?_
  refine lv_lstore_n (lv' := [(1, .long (281474976710656 : Int64)), (0, .int a0)]) hx hb d_T_oneMoreOf_3 rfl hl (by decide) rfl (fun ls hl => ?_)
  refine lv_iconst (v := 0) hx hb d_T_oneMoreOf_4 (by decide) ?_
  refine lv_istore_n (lv' := [(3, .int (0 : Int32)), (1, .long (281474976710656 : Int64)), (0, .int a0)]) hx hb d_T_oneMoreOf_5 rfl hl (by decide) rfl (fun ls hl => ?_)
  obtain ⟨n2, hP⟩ := hP
  refine wL_T_oneMoreOf_6 E n2 _ _ _ _ _ _ _ hP (lv_sub hl [2, 1, 0] rfl) hW
theorem d_T_field_0 : decode cc_T_field 0 = .ok (.lload_n 0, 1) := by decide +kernel
theorem d_T_field_1 : decode cc_T_field 1 = .ok (.iconst 4, 1) := by decide +kernel
theorem d_T_field_2 : decode cc_T_field 2 = .ok (.iload_n 2, 1) := by decide +kernel
theorem d_T_field_3 : decode cc_T_field 3 = .ok (.imul, 1) := by decide +kernel
theorem d_T_field_4 : decode cc_T_field 4 = .ok (.lshr, 1) := by decide +kernel
theorem d_T_field_5 : decode cc_T_field 5 = .ok (.l2i, 1) := by decide +kernel
theorem d_T_field_6 : decode cc_T_field 6 = .ok (.bipush 15, 2) := by decide +kernel
theorem d_T_field_8 : decode cc_T_field 8 = .ok (.iand, 1) := by decide +kernel
theorem d_T_field_9 : decode cc_T_field 9 = .ok (.ireturn, 1) := by decide +kernel
def P_T_field (a0 : Int64) (a2 : Int32) (z0 : St) (Q : Int32 → St → Prop) : Prop := Q (((a0 >>> (((4 : Int32) * a2).toInt64 &&& 63)).toInt32) &&& (15 : Int32)) z0
set_option maxHeartbeats 4000000 in
set_option maxRecDepth 100000 in
theorem c_T_field {l : Launch} {G : GG} (a0 : Int64) (a2 : Int32) (z0 : St) (Q : Int32 → St → Prop) (hP : P_T_field a0 a2 z0 Q) : Cti l y_T_field cc_T_field 3 (some .int) rm_T_field G [.long a0, .int a2] z0 Q := by
  refine Cti.op (own := R_T) (by decide) rfl (Nat.le_of_ble_eq_true rfl) (fun p e s m args below meth c ls E hl hW => ?_)
  obtain ⟨hx, hb, hml, hown, hr, hlk, hex, hE⟩ := id E
  have hl : lv_has ls 3 [(0, .long a0), (2, .int a2)] := hl
  refine lv_lload_n hx hb d_T_field_0 rfl (lv_at hl 0 rfl) ?_
  refine lv_iconst (v := 4) hx hb d_T_field_1 (by decide) ?_
  refine lv_iload_n hx hb d_T_field_2 rfl (lv_at hl 1 rfl) ?_
  refine lv_imul hx hb d_T_field_3 ?_
  refine lv_lshr hx hb d_T_field_4 rfl ?_
  refine lv_l2i hx hb d_T_field_5 rfl ?_
  refine lv_bipush (v := 15) hx hb d_T_field_6 (by decide) ?_
  refine lv_iand hx hb d_T_field_8 ?_
  exact yr_i hx hb hr hlk hW hP d_T_field_9
end Code
