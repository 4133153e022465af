/-! M_isAllowed, M_place, M_find, M_spread, M_list, M_choose, M_isPanel -/
section Code
variable {p : Program} {l : Launch} {e : Env} {s : State} {m : MethodId} {args : Array Value} {below : List Frame} {meth : Method} {c : Code} {G : GG}
theorem d_M_isAllowed_0 : decode cc_M_isAllowed 0 = .ok (.lload_n 1, 1) := by decide +kernel
theorem d_M_isAllowed_1 : decode cc_M_isAllowed 1 = .ok (.invokestatic 116, 3) := by decide +kernel
theorem d_M_isAllowed_4 : decode cc_M_isAllowed 4 = .ok (.aload_n 0, 1) := by decide +kernel
theorem d_M_isAllowed_5 : decode cc_M_isAllowed 5 = .ok (.getfield 26, 3) := by decide +kernel
theorem d_M_isAllowed_8 : decode cc_M_isAllowed 8 = .ok (.if_icmp .gt 7, 3) := by decide +kernel
theorem d_M_isAllowed_11 : decode cc_M_isAllowed 11 = .ok (.iconst 1, 1) := by decide +kernel
theorem d_M_isAllowed_12 : decode cc_M_isAllowed 12 = .ok (.goto 4, 3) := by decide +kernel
theorem d_M_isAllowed_15 : decode cc_M_isAllowed 15 = .ok (.iconst 0, 1) := by decide +kernel
theorem d_M_isAllowed_16 : decode cc_M_isAllowed 16 = .ok (.istore_n 3, 1) := by decide +kernel
theorem d_M_isAllowed_17 : decode cc_M_isAllowed 17 = .ok (.iconst 0, 1) := by decide +kernel
theorem d_M_isAllowed_18 : decode cc_M_isAllowed 18 = .ok (.istore 4, 2) := by decide +kernel
theorem d_M_isAllowed_20 : decode cc_M_isAllowed 20 = .ok (.iload 4, 2) := by decide +kernel
theorem d_M_isAllowed_22 : decode cc_M_isAllowed 22 = .ok (.iconst 3, 1) := by decide +kernel
theorem d_M_isAllowed_23 : decode cc_M_isAllowed 23 = .ok (.if_icmp .ge 63, 3) := by decide +kernel
theorem d_M_isAllowed_26 : decode cc_M_isAllowed 26 = .ok (.iconst 0, 1) := by decide +kernel
theorem d_M_isAllowed_27 : decode cc_M_isAllowed 27 = .ok (.istore 5, 2) := by decide +kernel
theorem d_M_isAllowed_29 : decode cc_M_isAllowed 29 = .ok (.iload 5, 2) := by decide +kernel
theorem d_M_isAllowed_31 : decode cc_M_isAllowed 31 = .ok (.aload_n 0, 1) := by decide +kernel
theorem d_M_isAllowed_32 : decode cc_M_isAllowed 32 = .ok (.getfield 17, 3) := by decide +kernel
theorem d_M_isAllowed_35 : decode cc_M_isAllowed 35 = .ok (.iload 4, 2) := by decide +kernel
theorem d_M_isAllowed_37 : decode cc_M_isAllowed 37 = .ok (.iaload, 1) := by decide +kernel
theorem d_M_isAllowed_38 : decode cc_M_isAllowed 38 = .ok (.if_icmp .ge 42, 3) := by decide +kernel
theorem d_M_isAllowed_41 : decode cc_M_isAllowed 41 = .ok (.iload_n 3, 1) := by decide +kernel
theorem d_M_isAllowed_42 : decode cc_M_isAllowed 42 = .ok (.ifCond .eq 30, 3) := by decide +kernel
theorem d_M_isAllowed_45 : decode cc_M_isAllowed 45 = .ok (.lload_n 1, 1) := by decide +kernel
theorem d_M_isAllowed_46 : decode cc_M_isAllowed 46 = .ok (.iload 4, 2) := by decide +kernel
theorem d_M_isAllowed_48 : decode cc_M_isAllowed 48 = .ok (.iload 5, 2) := by decide +kernel
theorem d_M_isAllowed_50 : decode cc_M_isAllowed 50 = .ok (.invokestatic 112, 3) := by decide +kernel
theorem d_M_isAllowed_53 : decode cc_M_isAllowed 53 = .ok (.aload_n 0, 1) := by decide +kernel
theorem d_M_isAllowed_54 : decode cc_M_isAllowed 54 = .ok (.getfield 23, 3) := by decide +kernel
theorem d_M_isAllowed_57 : decode cc_M_isAllowed 57 = .ok (.iconst 4, 1) := by decide +kernel
theorem d_M_isAllowed_58 : decode cc_M_isAllowed 58 = .ok (.iload 4, 2) := by decide +kernel
theorem d_M_isAllowed_60 : decode cc_M_isAllowed 60 = .ok (.imul, 1) := by decide +kernel
theorem d_M_isAllowed_61 : decode cc_M_isAllowed 61 = .ok (.iload 5, 2) := by decide +kernel
theorem d_M_isAllowed_63 : decode cc_M_isAllowed 63 = .ok (.iadd, 1) := by decide +kernel
theorem d_M_isAllowed_64 : decode cc_M_isAllowed 64 = .ok (.iaload, 1) := by decide +kernel
theorem d_M_isAllowed_65 : decode cc_M_isAllowed 65 = .ok (.if_icmp .gt 7, 3) := by decide +kernel
theorem d_M_isAllowed_68 : decode cc_M_isAllowed 68 = .ok (.iconst 1, 1) := by decide +kernel
theorem d_M_isAllowed_69 : decode cc_M_isAllowed 69 = .ok (.goto 4, 3) := by decide +kernel
theorem d_M_isAllowed_72 : decode cc_M_isAllowed 72 = .ok (.iconst 0, 1) := by decide +kernel
theorem d_M_isAllowed_73 : decode cc_M_isAllowed 73 = .ok (.istore_n 3, 1) := by decide +kernel
theorem d_M_isAllowed_74 : decode cc_M_isAllowed 74 = .ok (.iinc 5 1, 3) := by decide +kernel
theorem d_M_isAllowed_77 : decode cc_M_isAllowed 77 = .ok (.goto (-48), 3) := by decide +kernel
theorem d_M_isAllowed_80 : decode cc_M_isAllowed 80 = .ok (.iinc 4 1, 3) := by decide +kernel
theorem d_M_isAllowed_83 : decode cc_M_isAllowed 83 = .ok (.goto (-63), 3) := by decide +kernel
theorem d_M_isAllowed_86 : decode cc_M_isAllowed 86 = .ok (.iload_n 3, 1) := by decide +kernel
theorem d_M_isAllowed_87 : decode cc_M_isAllowed 87 = .ok (.ireturn, 1) := by decide +kernel
def J_M_isAllowed_72 (K29 : Int64 → Int32 → Int32 → Int32 → St → Prop) (K80 : Int64 → Int32 → Int32 → St → Prop) (Q : Int32 → St → Prop) (v1 : Int64) (v4 : Int32) (v5 : Int32) (z0 : St) : Prop := ∀ x3 : Int32, x3 = v5 + 1 → K29 v1 (0 : Int32) v4 x3 z0
def L_M_isAllowed_29 (K80 : Int64 → Int32 → Int32 → St → Prop) (Q : Int32 → St → Prop) : Nat → Int64 → Int32 → Int32 → Int32 → St → Prop
  | 0, _, _, _, _, _ => False
  | n + 1, v1, v3, v4, v5, z0 => vp_in v4 3 ∧ (((z0.1 34 v4.toNatClampNeg) ≤ v5) → K80 v1 v3 v4 z0) ∧ ((¬ (z0.1 34 v4.toNatClampNeg) ≤ v5) → ((v3 = 0) → J_M_isAllowed_72 (L_M_isAllowed_29 K80 Q n) K80 Q v1 v4 v5 z0) ∧ ((¬ v3 = 0) → P_M_had v1 v4 v5 z0 (fun (x5 : Int32) (z4 : St) => vp_in (((4 : Int32) * v4) + v5) 12 ∧ (((z4.1 36 (((4 : Int32) * v4) + v5).toNatClampNeg) < x5) → J_M_isAllowed_72 (L_M_isAllowed_29 K80 Q n) K80 Q v1 v4 v5 z4) ∧ ((¬ (z4.1 36 (((4 : Int32) * v4) + v5).toNatClampNeg) < x5) → ∀ x6 : Int32, x6 = v5 + 1 → L_M_isAllowed_29 K80 Q n v1 (1 : Int32) v4 x6 z4))))
def L_M_isAllowed_20 (Q : Int32 → St → Prop) : Nat → Int64 → Int32 → Int32 → St → Prop
  | 0, _, _, _, _ => False
  | n + 1, v1, v3, v4, z0 => (((3 : Int32) ≤ v4) → zb v3 ∧ Q v3 z0) ∧ ((¬ (3 : Int32) ≤ v4) → ∃ k29 : Nat, L_M_isAllowed_29 (fun (x7 : Int64) (x8 : Int32) (x9 : Int32) (z10 : St) => ∀ x11 : Int32, x11 = x9 + 1 → L_M_isAllowed_20 Q n x7 x8 x11 z10) Q k29 v1 v3 v4 (0 : Int32) z0)
def P_M_isAllowed (a1 : Int64) (z0 : St) (Q : Int32 → St → Prop) : Prop := P_M_all a1 z0 (fun (x2 : Int32) (z1 : St) => (((z1.1 31 7) < x2) → ∃ k20 : Nat, L_M_isAllowed_20 Q k20 a1 (0 : Int32) (0 : Int32) z1) ∧ ((¬ (z1.1 31 7) < x2) → ∃ k20 : Nat, L_M_isAllowed_20 Q k20 a1 (1 : Int32) (0 : Int32) z1))
set_option maxHeartbeats 4000000 in
set_option maxRecDepth 100000 in
theorem wJ_M_isAllowed_72 {K29 : Int64 → Int32 → Int32 → Int32 → St → Prop} {K80 : Int64 → Int32 → Int32 → St → Prop} {Q : Int32 → St → Prop} (E : En p l s m meth c args cc_M_isAllowed 6 R_M (some .boolean) G)
    (hK29 : ∀ (v1 : Int64) (v3 : Int32) (v4 : Int32) (v5 : Int32) (z0 : St) (ls : Array Slot) (H : Heap) (locs : List Loc), K29 v1 v3 v4 v5 z0 → lv_has ls 6 [(0, .ref (ha G 31)), (1, .long v1), (3, .int v3), (4, .int v4), (5, .int v5)] → Wd G z0 s.heap H locs → W p l e rm_M_isAllowed s m args below meth c H locs 0 0 (MQ below (QiR Q G) args s 0 0 (fr G)) (F0 m 29 ls []))
    (hK80 : ∀ (v1 : Int64) (v3 : Int32) (v4 : Int32) (z0 : St) (ls : Array Slot) (H : Heap) (locs : List Loc), K80 v1 v3 v4 z0 → lv_has ls 6 [(0, .ref (ha G 31)), (1, .long v1), (3, .int v3), (4, .int v4)] → Wd G z0 s.heap H locs → W p l e rm_M_isAllowed s m args below meth c H locs 0 0 (MQ below (QiR Q G) args s 0 0 (fr G)) (F0 m 80 ls []))
    (v1 : Int64) (v4 : Int32) (v5 : Int32) (z0 : St) (ls : Array Slot) (H : Heap) (locs : List Loc) (hP : J_M_isAllowed_72 K29 K80 Q v1 v4 v5 z0) (hl : lv_has ls 6 [(0, .ref (ha G 31)), (1, .long v1), (4, .int v4), (5, .int v5)]) (hW : Wd G z0 s.heap H locs) : W p l e rm_M_isAllowed s m args below meth c H locs 0 0 (MQ below (QiR Q G) args s 0 0 (fr G)) (F0 m 72 ls []) := by
  obtain ⟨hx, hb, hml, hown, hr, hlk, hex, hE⟩ := id E
  refine lv_iconst (v := 0) hx hb d_M_isAllowed_72 (by decide) ?_
  refine lv_istore_n (lv' := [(3, .int (0 : Int32)), (0, .ref (ha G 31)), (1, .long v1), (4, .int v4), (5, .int v5)]) hx hb d_M_isAllowed_73 rfl hl (by decide) rfl (fun ls hl => ?_)
  obtain ⟨x3, e_x3⟩ : ∃ z : Int32, z = v5 + 1 := ⟨_, rfl⟩
  have hP := hP x3 e_x3
  refine lv_iinc (k := 4) (lv' := [(5, .int x3), (3, .int (0 : Int32)), (0, .ref (ha G 31)), (1, .long v1), (4, .int v4)]) hx hb d_M_isAllowed_74 hl rfl (ii_p1 e_x3) (by decide) rfl (fun ls hl => ?_)
  refine lv_goto (tgt := 29) hx hb d_M_isAllowed_77 rfl ?_
  exact hK29 _ _ _ _ _ _ _ _ hP (lv_sub hl [2, 3, 1, 4, 0] rfl) hW
set_option maxHeartbeats 4000000 in
set_option maxRecDepth 100000 in
theorem wL_M_isAllowed_29 {K80 : Int64 → Int32 → Int32 → St → Prop} {Q : Int32 → St → Prop} (E : En p l s m meth c args cc_M_isAllowed 6 R_M (some .boolean) G)
    (hK80 : ∀ (v1 : Int64) (v3 : Int32) (v4 : Int32) (z0 : St) (ls : Array Slot) (H : Heap) (locs : List Loc), K80 v1 v3 v4 z0 → lv_has ls 6 [(0, .ref (ha G 31)), (1, .long v1), (3, .int v3), (4, .int v4)] → Wd G z0 s.heap H locs → W p l e rm_M_isAllowed s m args below meth c H locs 0 0 (MQ below (QiR Q G) args s 0 0 (fr G)) (F0 m 80 ls [])) :
    ∀ (n : Nat) (v1 : Int64) (v3 : Int32) (v4 : Int32) (v5 : Int32) (z0 : St) (ls : Array Slot) (H : Heap) (locs : List Loc), L_M_isAllowed_29 K80 Q n v1 v3 v4 v5 z0 → lv_has ls 6 [(0, .ref (ha G 31)), (1, .long v1), (3, .int v3), (4, .int v4), (5, .int v5)] → Wd G z0 s.heap H locs → W p l e rm_M_isAllowed s m args below meth c H locs 0 0 (MQ below (QiR Q G) args s 0 0 (fr G)) (F0 m 29 ls []) := by
  obtain ⟨hx, hb, hml, hown, hr, hlk, hex, hE⟩ := id E
  intro n
  induction n with
  | zero => exact fun _ _ _ _ _ _ _ _ hP _ _ => hP.elim
  | succ n ih =>
    intro v1 v3 v4 v5 z0 ls H locs hP hl hW
    refine lv_iload hx hb d_M_isAllowed_29 (lv_at hl 4 rfl) ?_
    refine lv_aload_n hx hb d_M_isAllowed_31 rfl (lv_at hl 0 rfl) ?_
    refine ygf_31_4 hx hb hown hE hW (lk_M_17 hE) d_M_isAllowed_32 ?_
    refine lv_iload hx hb d_M_isAllowed_35 (lv_at hl 3 rfl) ?_
    refine ya_34 hx hb hE hW hP.1 d_M_isAllowed_37 ?_
    have hP := hP.2
    refine lv_icmp_ge (tgt := 80) hx hb d_M_isAllowed_38 rfl (fun hc => ?_) (fun hc => ?_)
    · have hP := hP.1 hc
      exact hK80 _ _ _ _ _ _ _ hP (lv_sub hl [0, 1, 2, 3] rfl) hW
    · have hP := hP.2 hc
      refine lv_iload_n hx hb d_M_isAllowed_41 rfl (lv_at hl 2 rfl) ?_
      refine lv_if_eq (tgt := 72) hx hb d_M_isAllowed_42 rfl (fun hc => ?_) (fun hc => ?_)
      · have hP := hP.1 hc
        exact wJ_M_isAllowed_72 E ih hK80 _ _ _ _ _ _ _ hP (lv_sub hl [0, 1, 3, 4] rfl) hW
      · have hP := hP.2 hc
        refine lv_lload_n hx hb d_M_isAllowed_45 rfl (lv_at hl 1 rfl) ?_
        refine lv_iload hx hb d_M_isAllowed_46 (lv_at hl 3 rfl) ?_
        refine lv_iload hx hb d_M_isAllowed_48 (lv_at hl 4 rfl) ?_
        refine yc_i (yS (As := [.long v1, .int v4, .int v5]) (rest := []) E (c_M_had _ _ _ _ _ hP) (cw_M_112 hE) (by decide) hW hl.1 rfl rfl rfl d_M_isAllowed_50) hW (fun x5 z4 H locs hP hW => ?_)
        refine lv_aload_n hx hb d_M_isAllowed_53 rfl (lv_at hl 0 rfl) ?_
        refine ygf_31_6 hx hb hown hE hW (lk_M_23 hE) d_M_isAllowed_54 ?_
        refine lv_iconst (v := 4) hx hb d_M_isAllowed_57 (by decide) ?_
        refine lv_iload hx hb d_M_isAllowed_58 (lv_at hl 3 rfl) ?_
        refine lv_imul hx hb d_M_isAllowed_60 ?_
        refine lv_iload hx hb d_M_isAllowed_61 (lv_at hl 4 rfl) ?_
        refine lv_iadd hx hb d_M_isAllowed_63 ?_
        refine ya_36 hx hb hE hW hP.1 d_M_isAllowed_64 ?_
        have hP := hP.2
        refine lv_icmp_gt (tgt := 72) hx hb d_M_isAllowed_65 rfl (fun hc => ?_) (fun hc => ?_)
        · have hP := hP.1 hc
          exact wJ_M_isAllowed_72 E ih hK80 _ _ _ _ _ _ _ hP (lv_sub hl [0, 1, 3, 4] rfl) hW
        · have hP := hP.2 hc
          refine lv_iconst (v := 1) hx hb d_M_isAllowed_68 (by decide) ?_
          refine lv_goto (tgt := 73) hx hb d_M_isAllowed_69 rfl ?_
          refine lv_istore_n (lv' := [(3, .int (1 : Int32)), (0, .ref (ha G 31)), (1, .long v1), (4, .int v4), (5, .int v5)]) hx hb d_M_isAllowed_73 rfl hl (by decide) rfl (fun ls hl => ?_)
          obtain ⟨x6, e_x6⟩ : ∃ z : Int32, z = v5 + 1 := ⟨_, rfl⟩
          have hP := hP x6 e_x6
          refine lv_iinc (k := 4) (lv' := [(5, .int x6), (3, .int (1 : Int32)), (0, .ref (ha G 31)), (1, .long v1), (4, .int v4)]) hx hb d_M_isAllowed_74 hl rfl (ii_p1 e_x6) (by decide) rfl (fun ls hl => ?_)
          refine lv_goto (tgt := 29) hx hb d_M_isAllowed_77 rfl ?_
          exact ih _ _ _ _ _ _ _ _ hP (lv_sub hl [2, 3, 1, 4, 0] rfl) hW
set_option maxHeartbeats 4000000 in
set_option maxRecDepth 100000 in
theorem wL_M_isAllowed_20 {Q : Int32 → St → Prop} (E : En p l s m meth c args cc_M_isAllowed 6 R_M (some .boolean) G) :
    ∀ (n : Nat) (v1 : Int64) (v3 : Int32) (v4 : Int32) (z0 : St) (ls : Array Slot) (H : Heap) (locs : List Loc), L_M_isAllowed_20 Q n v1 v3 v4 z0 → lv_has ls 6 [(0, .ref (ha G 31)), (1, .long v1), (3, .int v3), (4, .int v4)] → Wd G z0 s.heap H locs → W p l e rm_M_isAllowed s m args below meth c H locs 0 0 (MQ below (QiR Q G) args s 0 0 (fr G)) (F0 m 20 ls []) := by
  obtain ⟨hx, hb, hml, hown, hr, hlk, hex, hE⟩ := id E
  intro n
  induction n with
  | zero => exact fun _ _ _ _ _ _ _ hP _ _ => hP.elim
  | succ n ih =>
    intro v1 v3 v4 z0 ls H locs hP hl hW
    refine lv_iload hx hb d_M_isAllowed_20 (lv_at hl 3 rfl) ?_
    refine lv_iconst (v := 3) hx hb d_M_isAllowed_22 (by decide) ?_
    refine lv_icmp_ge (tgt := 86) hx hb d_M_isAllowed_23 rfl (fun hc => ?_) (fun hc => ?_)
    · have hP := hP.1 hc
      refine lv_iload_n hx hb d_M_isAllowed_86 rfl (lv_at hl 2 rfl) ?_
      exact yr_z hx hb hr hlk hW hP.1 hP.2 d_M_isAllowed_87
    · have hP := hP.2 hc
      refine lv_iconst (v := 0) hx hb d_M_isAllowed_26 (by decide) ?_
      refine lv_istore (lv' := [(5, .int (0 : Int32)), (0, .ref (ha G 31)), (1, .long v1), (3, .int v3), (4, .int v4)]) hx hb d_M_isAllowed_27 hl (by decide) rfl (fun ls hl => ?_)
      obtain ⟨n2, hP⟩ := hP
      refine wL_M_isAllowed_29 E ?_ n2 _ _ _ _ _ _ _ _ hP (lv_sub hl [1, 2, 3, 4, 0] rfl) hW
      · intro x7 x8 x9 z10 ls H locs hP hl hW
        obtain ⟨x11, e_x11⟩ : ∃ z : Int32, z = x9 + 1 := ⟨_, rfl⟩
        have hP := hP x11 e_x11
        refine lv_iinc (k := 3) (lv' := [(4, .int x11), (0, .ref (ha G 31)), (1, .long x7), (3, .int x8)]) hx hb d_M_isAllowed_80 hl rfl (ii_p1 e_x11) (by decide) rfl (fun ls hl => ?_)
        refine lv_goto (tgt := 20) hx hb d_M_isAllowed_83 rfl ?_
        exact ih _ _ _ _ _ _ _ hP (lv_sub hl [1, 2, 3, 0] rfl) hW
set_option maxHeartbeats 4000000 in
set_option maxRecDepth 100000 in
theorem c_M_isAllowed {l : Launch} {G : GG} (a1 : Int64) (z0 : St) (Q : Int32 → St → Prop) (hP : P_M_isAllowed a1 z0 Q) : Cti l y_M_isAllowed cc_M_isAllowed 6 (some .boolean) rm_M_isAllowed G [.ref (ha G 31), .long a1] z0 Q := by
  refine Cti.op (own := R_M) (by decide) rfl (Nat.le_of_ble_eq_true rfl) (fun p e s m args below meth c ls E hl hW => ?_)
  obtain ⟨hx, hb, hml, hown, hr, hlk, hex, hE⟩ := id E
  have hl : lv_has ls 6 [(0, .ref (ha G 31)), (1, .long a1)] := hl
  refine lv_lload_n hx hb d_M_isAllowed_0 rfl (lv_at hl 1 rfl) ?_
  refine yc_i (yS (As := [.long a1]) (rest := []) E (c_M_all _ _ _ hP) (cw_M_116 hE) (by decide) hW hl.1 rfl rfl rfl d_M_isAllowed_1) hW (fun x2 z1 H locs hP hW => ?_)
  refine lv_aload_n hx hb d_M_isAllowed_4 rfl (lv_at hl 0 rfl) ?_
  refine ygf_31_7 hx hb hown hE hW (lk_M_26 hE) d_M_isAllowed_5 ?_
  refine lv_icmp_gt (tgt := 15) hx hb d_M_isAllowed_8 rfl (fun hc => ?_) (fun hc => ?_)
  · have hP := hP.1 hc
    refine lv_iconst (v := 0) hx hb d_M_isAllowed_15 (by decide) ?_
    refine lv_istore_n (lv' := [(3, .int (0 : Int32)), (0, .ref (ha G 31)), (1, .long a1)]) hx hb d_M_isAllowed_16 rfl hl (by decide) rfl (fun ls hl => ?_)
    refine lv_iconst (v := 0) hx hb d_M_isAllowed_17 (by decide) ?_
    refine lv_istore (lv' := [(4, .int (0 : Int32)), (3, .int (0 : Int32)), (0, .ref (ha G 31)), (1, .long a1)]) hx hb d_M_isAllowed_18 hl (by decide) rfl (fun ls hl => ?_)
    obtain ⟨n2, hP⟩ := hP
    refine wL_M_isAllowed_20 E n2 _ _ _ _ _ _ _ hP (lv_sub hl [2, 3, 1, 0] rfl) hW
  · have hP := hP.2 hc
    refine lv_iconst (v := 1) hx hb d_M_isAllowed_11 (by decide) ?_
    refine lv_goto (tgt := 16) hx hb d_M_isAllowed_12 rfl ?_
    refine lv_istore_n (lv' := [(3, .int (1 : Int32)), (0, .ref (ha G 31)), (1, .long a1)]) hx hb d_M_isAllowed_16 rfl hl (by decide) rfl (fun ls hl => ?_)
    refine lv_iconst (v := 0) hx hb d_M_isAllowed_17 (by decide) ?_
    refine lv_istore (lv' := [(4, .int (0 : Int32)), (3, .int (1 : Int32)), (0, .ref (ha G 31)), (1, .long a1)]) hx hb d_M_isAllowed_18 hl (by decide) rfl (fun ls hl => ?_)
    obtain ⟨n2, hP⟩ := hP
    refine wL_M_isAllowed_20 E n2 _ _ _ _ _ _ _ hP (lv_sub hl [2, 3, 1, 0] rfl) hW
theorem d_M_place_0 : decode cc_M_place 0 = .ok (.lload_n 0, 1) := by decide +kernel
theorem d_M_place_1 : decode cc_M_place 1 = .ok (.lload_n 0, 1) := by decide +kernel
theorem d_M_place_2 : decode cc_M_place 2 = .ok (.bipush 13, 2) := by decide +kernel
theorem d_M_place_4 : decode cc_M_place 4 = .ok (.lshr, 1) := by decide +kernel
theorem d_M_place_5 : decode cc_M_place 5 = .ok (.lxor, 1) := by decide +kernel
theorem d_M_place_6 : decode cc_M_place 6 = .ok (.lload_n 0, 1) := by decide +kernel
theorem d_M_place_7 : decode cc_M_place 7 = .ok (.bipush 29, 2) := by decide +kernel
theorem d_M_place_9 : decode cc_M_place 9 = .ok (.lshr, 1) := by decide +kernel
theorem d_M_place_10 : decode cc_M_place 10 = .ok (.lxor, 1) := by decide +kernel
theorem d_M_place_11 : decode cc_M_place 11 = .ok (.l2i, 1) := by decide +kernel
theorem d_M_place_12 : decode cc_M_place 12 = .ok (.sipush 4095, 3) := by decide +kernel
theorem d_M_place_15 : decode cc_M_place 15 = .ok (.iand, 1) := by decide +kernel
theorem d_M_place_16 : decode cc_M_place 16 = .ok (.ireturn, 1) := by decide +kernel
def P_M_place (a0 : Int64) (z0 : St) (Q : Int32 → St → Prop) : Prop := Q ((((a0 ^^^ (a0 >>> ((13 : Int32).toInt64 &&& 63))) ^^^ (a0 >>> ((29 : Int32).toInt64 &&& 63))).toInt32) &&& (4095 : Int32)) z0
set_option maxHeartbeats 4000000 in
set_option maxRecDepth 100000 in
theorem c_M_place {l : Launch} {G : GG} (a0 : Int64) (z0 : St) (Q : Int32 → St → Prop) (hP : P_M_place a0 z0 Q) : Cti l y_M_place cc_M_place 2 (some .int) rm_M_place G [.long a0] z0 Q := by
  refine Cti.op (own := R_M) (by decide) rfl (Nat.le_of_ble_eq_true rfl) (fun p e s m args below meth c ls E hl hW => ?_)
  obtain ⟨hx, hb, hml, hown, hr, hlk, hex, hE⟩ := id E
  have hl : lv_has ls 2 [(0, .long a0)] := hl
  refine lv_lload_n hx hb d_M_place_0 rfl (lv_at hl 0 rfl) ?_
  refine lv_lload_n hx hb d_M_place_1 rfl (lv_at hl 0 rfl) ?_
  refine lv_bipush (v := 13) hx hb d_M_place_2 (by decide) ?_
  refine lv_lshr hx hb d_M_place_4 rfl ?_
  refine lv_lxor hx hb d_M_place_5 ?_
  refine lv_lload_n hx hb d_M_place_6 rfl (lv_at hl 0 rfl) ?_
  refine lv_bipush (v := 29) hx hb d_M_place_7 (by decide) ?_
  refine lv_lshr hx hb d_M_place_9 rfl ?_
  refine lv_lxor hx hb d_M_place_10 ?_
  refine lv_l2i hx hb d_M_place_11 rfl ?_
  refine lv_sipush (v := 4095) hx hb d_M_place_12 (by decide) ?_
  refine lv_iand hx hb d_M_place_15 ?_
  exact yr_i hx hb hr hlk hW hP d_M_place_16
theorem d_M_find_0 : decode cc_M_find 0 = .ok (.aload_n 0, 1) := by decide +kernel
theorem d_M_find_1 : decode cc_M_find 1 = .ok (.getfield 49, 3) := by decide +kernel
theorem d_M_find_4 : decode cc_M_find 4 = .ok (.lload_n 2, 1) := by decide +kernel
theorem d_M_find_5 : decode cc_M_find 5 = .ok (.ldc2_w 106, 3) := by decide +kernel
theorem d_M_find_8 : decode cc_M_find 8 = .ok (.iload_n 1, 1) := by decide +kernel
theorem d_M_find_9 : decode cc_M_find 9 = .ok (.i2l, 1) := by decide +kernel
theorem d_M_find_10 : decode cc_M_find 10 = .ok (.lmul, 1) := by decide +kernel
theorem d_M_find_11 : decode cc_M_find 11 = .ok (.ladd, 1) := by decide +kernel
theorem d_M_find_12 : decode cc_M_find 12 = .ok (.invokestatic 108, 3) := by decide +kernel
theorem d_M_find_15 : decode cc_M_find 15 = .ok (.iaload, 1) := by decide +kernel
theorem d_M_find_16 : decode cc_M_find 16 = .ok (.iconst 1, 1) := by decide +kernel
theorem d_M_find_17 : decode cc_M_find 17 = .ok (.isub, 1) := by decide +kernel
theorem d_M_find_18 : decode cc_M_find 18 = .ok (.istore 4, 2) := by decide +kernel
theorem d_M_find_20 : decode cc_M_find 20 = .ok (.iload 4, 2) := by decide +kernel
theorem d_M_find_22 : decode cc_M_find 22 = .ok (.ifCond .lt 53, 3) := by decide +kernel
theorem d_M_find_25 : decode cc_M_find 25 = .ok (.aload_n 0, 1) := by decide +kernel
theorem d_M_find_26 : decode cc_M_find 26 = .ok (.getfield 39, 3) := by decide +kernel
theorem d_M_find_29 : decode cc_M_find 29 = .ok (.iload 4, 2) := by decide +kernel
theorem d_M_find_31 : decode cc_M_find 31 = .ok (.laload, 1) := by decide +kernel
theorem d_M_find_32 : decode cc_M_find 32 = .ok (.lload_n 2, 1) := by decide +kernel
theorem d_M_find_33 : decode cc_M_find 33 = .ok (.lcmp, 1) := by decide +kernel
theorem d_M_find_34 : decode cc_M_find 34 = .ok (.ifCond .ne 27, 3) := by decide +kernel
theorem d_M_find_37 : decode cc_M_find 37 = .ok (.iload 4, 2) := by decide +kernel
theorem d_M_find_39 : decode cc_M_find 39 = .ok (.aload_n 0, 1) := by decide +kernel
theorem d_M_find_40 : decode cc_M_find 40 = .ok (.getfield 36, 3) := by decide +kernel
theorem d_M_find_43 : decode cc_M_find 43 = .ok (.iload_n 1, 1) := by decide +kernel
theorem d_M_find_44 : decode cc_M_find 44 = .ok (.iaload, 1) := by decide +kernel
theorem d_M_find_45 : decode cc_M_find 45 = .ok (.if_icmp .lt 16, 3) := by decide +kernel
theorem d_M_find_48 : decode cc_M_find 48 = .ok (.iload 4, 2) := by decide +kernel
theorem d_M_find_50 : decode cc_M_find 50 = .ok (.aload_n 0, 1) := by decide +kernel
theorem d_M_find_51 : decode cc_M_find 51 = .ok (.getfield 36, 3) := by decide +kernel
theorem d_M_find_54 : decode cc_M_find 54 = .ok (.iload_n 1, 1) := by decide +kernel
theorem d_M_find_55 : decode cc_M_find 55 = .ok (.iconst 1, 1) := by decide +kernel
theorem d_M_find_56 : decode cc_M_find 56 = .ok (.iadd, 1) := by decide +kernel
theorem d_M_find_57 : decode cc_M_find 57 = .ok (.iaload, 1) := by decide +kernel
theorem d_M_find_58 : decode cc_M_find 58 = .ok (.if_icmp .lt 17, 3) := by decide +kernel
theorem d_M_find_61 : decode cc_M_find 61 = .ok (.aload_n 0, 1) := by decide +kernel
theorem d_M_find_62 : decode cc_M_find 62 = .ok (.getfield 46, 3) := by decide +kernel
theorem d_M_find_65 : decode cc_M_find 65 = .ok (.iload 4, 2) := by decide +kernel
theorem d_M_find_67 : decode cc_M_find 67 = .ok (.iaload, 1) := by decide +kernel
theorem d_M_find_68 : decode cc_M_find 68 = .ok (.iconst 1, 1) := by decide +kernel
theorem d_M_find_69 : decode cc_M_find 69 = .ok (.isub, 1) := by decide +kernel
theorem d_M_find_70 : decode cc_M_find 70 = .ok (.istore 4, 2) := by decide +kernel
theorem d_M_find_72 : decode cc_M_find 72 = .ok (.goto (-52), 3) := by decide +kernel
theorem d_M_find_75 : decode cc_M_find 75 = .ok (.iload 4, 2) := by decide +kernel
theorem d_M_find_77 : decode cc_M_find 77 = .ok (.ireturn, 1) := by decide +kernel
def L_M_find_20 (Q : Int32 → St → Prop) : Nat → Int32 → Int64 → Int32 → St → Prop
  | 0, _, _, _, _ => False
  | n + 1, v1, v2, v4, z0 => ((v4 < 0) → Q v4 z0) ∧ ((¬ v4 < 0) → vp_in v4 1010 ∧ ((¬ (z0.2 40 v4.toNatClampNeg) = v2) → vp_in v4 1010 ∧ ∀ x4 : Int32, x4 = (z0.1 42 v4.toNatClampNeg) - (1 : Int32) → L_M_find_20 Q n v1 v2 x4 z0) ∧ (((z0.2 40 v4.toNatClampNeg) = v2) → vp_in v1 18 ∧ ((v4 < (z0.1 39 v1.toNatClampNeg)) → vp_in v4 1010 ∧ ∀ x5 : Int32, x5 = (z0.1 42 v4.toNatClampNeg) - (1 : Int32) → L_M_find_20 Q n v1 v2 x5 z0) ∧ ((¬ v4 < (z0.1 39 v1.toNatClampNeg)) → vp_in (v1 + (1 : Int32)) 18 ∧ ((v4 < (z0.1 39 (v1 + (1 : Int32)).toNatClampNeg)) → Q v4 z0) ∧ ((¬ v4 < (z0.1 39 (v1 + (1 : Int32)).toNatClampNeg)) → vp_in v4 1010 ∧ ∀ x6 : Int32, x6 = (z0.1 42 v4.toNatClampNeg) - (1 : Int32) → L_M_find_20 Q n v1 v2 x6 z0))))
def P_M_find (a1 : Int32) (a2 : Int64) (z0 : St) (Q : Int32 → St → Prop) : Prop := P_M_place (a2 + ((977 : Int64) * a1.toInt64)) z0 (fun (x2 : Int32) (z1 : St) => vp_in x2 4096 ∧ ∀ x3 : Int32, x3 = (z1.1 43 x2.toNatClampNeg) - (1 : Int32) → ∃ k20 : Nat, L_M_find_20 Q k20 a1 a2 x3 z1)
set_option maxHeartbeats 4000000 in
set_option maxRecDepth 100000 in
theorem wL_M_find_20 {Q : Int32 → St → Prop} (E : En p l s m meth c args cc_M_find 5 R_M (some .int) G) :
    ∀ (n : Nat) (v1 : Int32) (v2 : Int64) (v4 : Int32) (z0 : St) (ls : Array Slot) (H : Heap) (locs : List Loc), L_M_find_20 Q n v1 v2 v4 z0 → lv_has ls 5 [(0, .ref (ha G 31)), (1, .int v1), (2, .long v2), (4, .int v4)] → Wd G z0 s.heap H locs → W p l e rm_M_find s m args below meth c H locs 0 0 (MQ below (QiR Q G) args s 0 0 (fr G)) (F0 m 20 ls []) := by
  obtain ⟨hx, hb, hml, hown, hr, hlk, hex, hE⟩ := id E
  intro n
  induction n with
  | zero => exact fun _ _ _ _ _ _ _ hP _ _ => hP.elim
  | succ n ih =>
    intro v1 v2 v4 z0 ls H locs hP hl hW
    refine lv_iload hx hb d_M_find_20 (lv_at hl 3 rfl) ?_
    refine lv_if_lt (tgt := 75) hx hb d_M_find_22 rfl (fun hc => ?_) (fun hc => ?_)
    · have hP := hP.1 hc
      refine lv_iload hx hb d_M_find_75 (lv_at hl 3 rfl) ?_
      exact yr_i hx hb hr hlk hW hP d_M_find_77
    · have hP := hP.2 hc
      refine lv_aload_n hx hb d_M_find_25 rfl (lv_at hl 0 rfl) ?_
      refine ygf_31_15 hx hb hown hE hW (lk_M_39 hE) d_M_find_26 ?_
      refine lv_iload hx hb d_M_find_29 (lv_at hl 3 rfl) ?_
      refine ya_40 hx hb hE hW hP.1 d_M_find_31 ?_
      have hP := hP.2
      refine lv_lload_n hx hb d_M_find_32 rfl (lv_at hl 2 rfl) ?_
      refine W.lcmp hx hb d_M_find_33 ?_
      refine lv_if_ne (tgt := 61) hx hb d_M_find_34 rfl (fun hc => ?_) (fun hc => ?_)
      · have hP := hP.1 (lgc_net hc)
        refine lv_aload_n hx hb d_M_find_61 rfl (lv_at hl 0 rfl) ?_
        refine ygf_31_17 hx hb hown hE hW (lk_M_46 hE) d_M_find_62 ?_
        refine lv_iload hx hb d_M_find_65 (lv_at hl 3 rfl) ?_
        refine ya_42 hx hb hE hW hP.1 d_M_find_67 ?_
        have hP := hP.2
        refine lv_iconst (v := 1) hx hb d_M_find_68 (by decide) ?_
        refine lv_isub hx hb d_M_find_69 ?_
        refine lv_topi (fun x4 e_x4 => ?_)
        have hP := hP x4 e_x4
        refine lv_istore (lv' := [(4, .int x4), (0, .ref (ha G 31)), (1, .int v1), (2, .long v2)]) hx hb d_M_find_70 hl (by decide) rfl (fun ls hl => ?_)
        refine lv_goto (tgt := 20) hx hb d_M_find_72 rfl ?_
        exact ih _ _ _ _ _ _ _ hP (lv_sub hl [1, 2, 3, 0] rfl) hW
      · have hP := hP.2 (lgc_nef hc)
        refine lv_iload hx hb d_M_find_37 (lv_at hl 3 rfl) ?_
        refine lv_aload_n hx hb d_M_find_39 rfl (lv_at hl 0 rfl) ?_
        refine ygf_31_14 hx hb hown hE hW (lk_M_36 hE) d_M_find_40 ?_
        refine lv_iload_n hx hb d_M_find_43 rfl (lv_at hl 1 rfl) ?_
        refine ya_39 hx hb hE hW hP.1 d_M_find_44 ?_
        have hP := hP.2
        refine lv_icmp_lt (tgt := 61) hx hb d_M_find_45 rfl (fun hc => ?_) (fun hc => ?_)
        · have hP := hP.1 hc
          refine lv_aload_n hx hb d_M_find_61 rfl (lv_at hl 0 rfl) ?_
          refine ygf_31_17 hx hb hown hE hW (lk_M_46 hE) d_M_find_62 ?_
          refine lv_iload hx hb d_M_find_65 (lv_at hl 3 rfl) ?_
          refine ya_42 hx hb hE hW hP.1 d_M_find_67 ?_
          have hP := hP.2
          refine lv_iconst (v := 1) hx hb d_M_find_68 (by decide) ?_
          refine lv_isub hx hb d_M_find_69 ?_
          refine lv_topi (fun x5 e_x5 => ?_)
          have hP := hP x5 e_x5
          refine lv_istore (lv' := [(4, .int x5), (0, .ref (ha G 31)), (1, .int v1), (2, .long v2)]) hx hb d_M_find_70 hl (by decide) rfl (fun ls hl => ?_)
          refine lv_goto (tgt := 20) hx hb d_M_find_72 rfl ?_
          exact ih _ _ _ _ _ _ _ hP (lv_sub hl [1, 2, 3, 0] rfl) hW
        · have hP := hP.2 hc
          refine lv_iload hx hb d_M_find_48 (lv_at hl 3 rfl) ?_
          refine lv_aload_n hx hb d_M_find_50 rfl (lv_at hl 0 rfl) ?_
          refine ygf_31_14 hx hb hown hE hW (lk_M_36 hE) d_M_find_51 ?_
          refine lv_iload_n hx hb d_M_find_54 rfl (lv_at hl 1 rfl) ?_
          refine lv_iconst (v := 1) hx hb d_M_find_55 (by decide) ?_
          refine lv_iadd hx hb d_M_find_56 ?_
          refine ya_39 hx hb hE hW hP.1 d_M_find_57 ?_
          have hP := hP.2
          refine lv_icmp_lt (tgt := 75) hx hb d_M_find_58 rfl (fun hc => ?_) (fun hc => ?_)
          · have hP := hP.1 hc
            refine lv_iload hx hb d_M_find_75 (lv_at hl 3 rfl) ?_
            exact yr_i hx hb hr hlk hW hP d_M_find_77
          · have hP := hP.2 hc
            refine lv_aload_n hx hb d_M_find_61 rfl (lv_at hl 0 rfl) ?_
            refine ygf_31_17 hx hb hown hE hW (lk_M_46 hE) d_M_find_62 ?_
            refine lv_iload hx hb d_M_find_65 (lv_at hl 3 rfl) ?_
            refine ya_42 hx hb hE hW hP.1 d_M_find_67 ?_
            have hP := hP.2
            refine lv_iconst (v := 1) hx hb d_M_find_68 (by decide) ?_
            refine lv_isub hx hb d_M_find_69 ?_
            refine lv_topi (fun x6 e_x6 => ?_)
            have hP := hP x6 e_x6
            refine lv_istore (lv' := [(4, .int x6), (0, .ref (ha G 31)), (1, .int v1), (2, .long v2)]) hx hb d_M_find_70 hl (by decide) rfl (fun ls hl => ?_)
            refine lv_goto (tgt := 20) hx hb d_M_find_72 rfl ?_
            exact ih _ _ _ _ _ _ _ hP (lv_sub hl [1, 2, 3, 0] rfl) hW
set_option maxHeartbeats 4000000 in
set_option maxRecDepth 100000 in
theorem c_M_find {l : Launch} {G : GG} (a1 : Int32) (a2 : Int64) (z0 : St) (Q : Int32 → St → Prop) (hP : P_M_find a1 a2 z0 Q) : Cti l y_M_find cc_M_find 5 (some .int) rm_M_find G [.ref (ha G 31), .int a1, .long a2] z0 Q := by
  refine Cti.op (own := R_M) (by decide) rfl (Nat.le_of_ble_eq_true rfl) (fun p e s m args below meth c ls E hl hW => ?_)
  obtain ⟨hx, hb, hml, hown, hr, hlk, hex, hE⟩ := id E
  have hl : lv_has ls 5 [(0, .ref (ha G 31)), (1, .int a1), (2, .long a2)] := hl
  refine lv_aload_n hx hb d_M_find_0 rfl (lv_at hl 0 rfl) ?_
  refine ygf_31_18 hx hb hown hE hW (lk_M_49 hE) d_M_find_1 ?_
  refine lv_lload_n hx hb d_M_find_4 rfl (lv_at hl 2 rfl) ?_
  refine lv_ldc2 (v := 977) hx hb hown (lk_M_106 hE) d_M_find_5 ?_
  refine lv_iload_n hx hb d_M_find_8 rfl (lv_at hl 1 rfl) ?_
  refine lv_i2l hx hb d_M_find_9 rfl ?_
  refine lv_lmul hx hb d_M_find_10 ?_
  refine lv_ladd hx hb d_M_find_11 ?_
  refine yc_i (yS (As := [.long (a2 + ((977 : Int64) * a1.toInt64))]) (rest := [.ref (ha G 43)]) E (c_M_place _ _ _ hP) (cw_M_108 hE) (by decide) hW hl.1 rfl rfl rfl d_M_find_12) hW (fun x2 z1 H locs hP hW => ?_)
  refine ya_43 hx hb hE hW hP.1 d_M_find_15 ?_
  have hP := hP.2
  refine lv_iconst (v := 1) hx hb d_M_find_16 (by decide) ?_
  refine lv_isub hx hb d_M_find_17 ?_
  refine lv_topi (fun x3 e_x3 => ?_)
  have hP := hP x3 e_x3
  refine lv_istore (lv' := [(4, .int x3), (0, .ref (ha G 31)), (1, .int a1), (2, .long a2)]) hx hb d_M_find_18 hl (by decide) rfl (fun ls hl => ?_)
  obtain ⟨n2, hP⟩ := hP
  refine wL_M_find_20 E n2 _ _ _ _ _ _ _ hP (lv_sub hl [1, 2, 3, 0] rfl) hW
theorem d_M_spread_0 : decode cc_M_spread 0 = .ok (.aload_n 0, 1) := by decide +kernel
theorem d_M_spread_1 : decode cc_M_spread 1 = .ok (.iload_n 1, 1) := by decide +kernel
theorem d_M_spread_2 : decode cc_M_spread 2 = .ok (.invokevirtual 133, 3) := by decide +kernel
theorem d_M_spread_5 : decode cc_M_spread 5 = .ok (.lstore_n 3, 1) := by decide +kernel
theorem d_M_spread_6 : decode cc_M_spread 6 = .ok (.iconst 0, 1) := by decide +kernel
theorem d_M_spread_7 : decode cc_M_spread 7 = .ok (.istore 5, 2) := by decide +kernel
theorem d_M_spread_9 : decode cc_M_spread 9 = .ok (.iload 5, 2) := by decide +kernel
theorem d_M_spread_11 : decode cc_M_spread 11 = .ok (.aload_n 0, 1) := by decide +kernel
theorem d_M_spread_12 : decode cc_M_spread 12 = .ok (.getfield 33, 3) := by decide +kernel
theorem d_M_spread_15 : decode cc_M_spread 15 = .ok (.iload_n 1, 1) := by decide +kernel
theorem d_M_spread_16 : decode cc_M_spread 16 = .ok (.iaload, 1) := by decide +kernel
theorem d_M_spread_17 : decode cc_M_spread 17 = .ok (.if_icmp .gt 142, 3) := by decide +kernel
theorem d_M_spread_20 : decode cc_M_spread 20 = .ok (.iload 5, 2) := by decide +kernel
theorem d_M_spread_22 : decode cc_M_spread 22 = .ok (.bipush 8, 2) := by decide +kernel
theorem d_M_spread_24 : decode cc_M_spread 24 = .ok (.if_icmp .gt 135, 3) := by decide +kernel
theorem d_M_spread_27 : decode cc_M_spread 27 = .ok (.aload_n 0, 1) := by decide +kernel
theorem d_M_spread_28 : decode cc_M_spread 28 = .ok (.getfield 123, 3) := by decide +kernel
theorem d_M_spread_31 : decode cc_M_spread 31 = .ok (.ifCond .ne 128, 3) := by decide +kernel
theorem d_M_spread_34 : decode cc_M_spread 34 = .ok (.aload_n 0, 1) := by decide +kernel
theorem d_M_spread_35 : decode cc_M_spread 35 = .ok (.getfield 39, 3) := by decide +kernel
theorem d_M_spread_38 : decode cc_M_spread 38 = .ok (.iload_n 2, 1) := by decide +kernel
theorem d_M_spread_39 : decode cc_M_spread 39 = .ok (.laload, 1) := by decide +kernel
theorem d_M_spread_40 : decode cc_M_spread 40 = .ok (.iload 5, 2) := by decide +kernel
theorem d_M_spread_42 : decode cc_M_spread 42 = .ok (.i2l, 1) := by decide +kernel
theorem d_M_spread_43 : decode cc_M_spread 43 = .ok (.lload_n 3, 1) := by decide +kernel
theorem d_M_spread_44 : decode cc_M_spread 44 = .ok (.lmul, 1) := by decide +kernel
theorem d_M_spread_45 : decode cc_M_spread 45 = .ok (.ladd, 1) := by decide +kernel
theorem d_M_spread_46 : decode cc_M_spread 46 = .ok (.lstore 6, 2) := by decide +kernel
theorem d_M_spread_48 : decode cc_M_spread 48 = .ok (.aload_n 0, 1) := by decide +kernel
theorem d_M_spread_49 : decode cc_M_spread 49 = .ok (.lload 6, 2) := by decide +kernel
theorem d_M_spread_51 : decode cc_M_spread 51 = .ok (.invokevirtual 119, 3) := by decide +kernel
theorem d_M_spread_54 : decode cc_M_spread 54 = .ok (.ifCond .ne 4, 3) := by decide +kernel
theorem d_M_spread_57 : decode cc_M_spread 57 = .ok (.return_, 1) := by decide +kernel
theorem d_M_spread_58 : decode cc_M_spread 58 = .ok (.aload_n 0, 1) := by decide +kernel
theorem d_M_spread_59 : decode cc_M_spread 59 = .ok (.iload_n 1, 1) := by decide +kernel
theorem d_M_spread_60 : decode cc_M_spread 60 = .ok (.iconst 1, 1) := by decide +kernel
theorem d_M_spread_61 : decode cc_M_spread 61 = .ok (.iadd, 1) := by decide +kernel
theorem d_M_spread_62 : decode cc_M_spread 62 = .ok (.lload 6, 2) := by decide +kernel
theorem d_M_spread_64 : decode cc_M_spread 64 = .ok (.invokevirtual 137, 3) := by decide +kernel
theorem d_M_spread_67 : decode cc_M_spread 67 = .ok (.ifCond .lt 6, 3) := by decide +kernel
theorem d_M_spread_70 : decode cc_M_spread 70 = .ok (.goto 83, 3) := by decide +kernel
theorem d_M_spread_73 : decode cc_M_spread 73 = .ok (.aload_n 0, 1) := by decide +kernel
theorem d_M_spread_74 : decode cc_M_spread 74 = .ok (.getfield 126, 3) := by decide +kernel
theorem d_M_spread_77 : decode cc_M_spread 77 = .ok (.sipush 1001, 3) := by decide +kernel
theorem d_M_spread_80 : decode cc_M_spread 80 = .ok (.if_icmp .ne 9, 3) := by decide +kernel
theorem d_M_spread_83 : decode cc_M_spread 83 = .ok (.aload_n 0, 1) := by decide +kernel
theorem d_M_spread_84 : decode cc_M_spread 84 = .ok (.iconst 1, 1) := by decide +kernel
theorem d_M_spread_85 : decode cc_M_spread 85 = .ok (.putfield 123, 3) := by decide +kernel
theorem d_M_spread_88 : decode cc_M_spread 88 = .ok (.return_, 1) := by decide +kernel
theorem d_M_spread_89 : decode cc_M_spread 89 = .ok (.aload_n 0, 1) := by decide +kernel
theorem d_M_spread_90 : decode cc_M_spread 90 = .ok (.getfield 39, 3) := by decide +kernel
theorem d_M_spread_93 : decode cc_M_spread 93 = .ok (.aload_n 0, 1) := by decide +kernel
theorem d_M_spread_94 : decode cc_M_spread 94 = .ok (.getfield 126, 3) := by decide +kernel
theorem d_M_spread_97 : decode cc_M_spread 97 = .ok (.lload 6, 2) := by decide +kernel
theorem d_M_spread_99 : decode cc_M_spread 99 = .ok (.lastore, 1) := by decide +kernel
theorem d_M_spread_100 : decode cc_M_spread 100 = .ok (.lload 6, 2) := by decide +kernel
theorem d_M_spread_102 : decode cc_M_spread 102 = .ok (.ldc2_w 106, 3) := by decide +kernel
theorem d_M_spread_105 : decode cc_M_spread 105 = .ok (.iload_n 1, 1) := by decide +kernel
theorem d_M_spread_106 : decode cc_M_spread 106 = .ok (.iconst 1, 1) := by decide +kernel
theorem d_M_spread_107 : decode cc_M_spread 107 = .ok (.iadd, 1) := by decide +kernel
theorem d_M_spread_108 : decode cc_M_spread 108 = .ok (.i2l, 1) := by decide +kernel
theorem d_M_spread_109 : decode cc_M_spread 109 = .ok (.lmul, 1) := by decide +kernel
theorem d_M_spread_110 : decode cc_M_spread 110 = .ok (.ladd, 1) := by decide +kernel
theorem d_M_spread_111 : decode cc_M_spread 111 = .ok (.invokestatic 108, 3) := by decide +kernel
theorem d_M_spread_114 : decode cc_M_spread 114 = .ok (.istore 8, 2) := by decide +kernel
theorem d_M_spread_116 : decode cc_M_spread 116 = .ok (.aload_n 0, 1) := by decide +kernel
theorem d_M_spread_117 : decode cc_M_spread 117 = .ok (.getfield 46, 3) := by decide +kernel
theorem d_M_spread_120 : decode cc_M_spread 120 = .ok (.aload_n 0, 1) := by decide +kernel
theorem d_M_spread_121 : decode cc_M_spread 121 = .ok (.getfield 126, 3) := by decide +kernel
theorem d_M_spread_124 : decode cc_M_spread 124 = .ok (.aload_n 0, 1) := by decide +kernel
theorem d_M_spread_125 : decode cc_M_spread 125 = .ok (.getfield 49, 3) := by decide +kernel
theorem d_M_spread_128 : decode cc_M_spread 128 = .ok (.iload 8, 2) := by decide +kernel
theorem d_M_spread_130 : decode cc_M_spread 130 = .ok (.iaload, 1) := by decide +kernel
theorem d_M_spread_131 : decode cc_M_spread 131 = .ok (.iastore, 1) := by decide +kernel
theorem d_M_spread_132 : decode cc_M_spread 132 = .ok (.aload_n 0, 1) := by decide +kernel
theorem d_M_spread_133 : decode cc_M_spread 133 = .ok (.dup, 1) := by decide +kernel
theorem d_M_spread_134 : decode cc_M_spread 134 = .ok (.getfield 126, 3) := by decide +kernel
theorem d_M_spread_137 : decode cc_M_spread 137 = .ok (.iconst 1, 1) := by decide +kernel
theorem d_M_spread_138 : decode cc_M_spread 138 = .ok (.iadd, 1) := by decide +kernel
theorem d_M_spread_139 : decode cc_M_spread 139 = .ok (.putfield 126, 3) := by decide +kernel
theorem d_M_spread_142 : decode cc_M_spread 142 = .ok (.aload_n 0, 1) := by decide +kernel
theorem d_M_spread_143 : decode cc_M_spread 143 = .ok (.getfield 49, 3) := by decide +kernel
theorem d_M_spread_146 : decode cc_M_spread 146 = .ok (.iload 8, 2) := by decide +kernel
theorem d_M_spread_148 : decode cc_M_spread 148 = .ok (.aload_n 0, 1) := by decide +kernel
theorem d_M_spread_149 : decode cc_M_spread 149 = .ok (.getfield 126, 3) := by decide +kernel
theorem d_M_spread_152 : decode cc_M_spread 152 = .ok (.iastore, 1) := by decide +kernel
theorem d_M_spread_153 : decode cc_M_spread 153 = .ok (.iinc 5 1, 3) := by decide +kernel
theorem d_M_spread_156 : decode cc_M_spread 156 = .ok (.goto (-147), 3) := by decide +kernel
theorem d_M_spread_159 : decode cc_M_spread 159 = .ok (.return_, 1) := by decide +kernel
def L_M_spread_9 (Q : St → Prop) : Nat → Int32 → Int32 → Int64 → Int32 → St → Prop
  | 0, _, _, _, _, _ => False
  | n + 1, v1, v2, v3, v5, z0 => vp_in v1 17 ∧ (((z0.1 38 v1.toNatClampNeg) < v5) → Q z0) ∧ ((¬ (z0.1 38 v1.toNatClampNeg) < v5) → (((8 : Int32) < v5) → Q z0) ∧ ((¬ (8 : Int32) < v5) → ((¬ (z0.1 31 12) = 0) → Q z0) ∧ (((z0.1 31 12) = 0) → vp_in v2 1010 ∧ ∀ x3 : Int64, x3 = (z0.2 40 v2.toNatClampNeg) + (v5.toInt64 * v3) → P_M_isAllowed x3 z0 (fun (x5 : Int32) (z4 : St) => ((¬ x5 = 0) → P_M_find (v1 + (1 : Int32)) x3 z4 (fun (x7 : Int32) (z6 : St) => ((x7 < 0) → ((¬ (z6.1 31 13) = (1001 : Int32)) → vp_in (z6.1 31 13) 1010 ∧ ∀ z8 : St, z8 = wL z6 40 (z6.1 31 13).toNatClampNeg x3 → P_M_place (x3 + ((977 : Int64) * ((v1 + (1 : Int32)).toInt64))) z8 (fun (x10 : Int32) (z9 : St) => vp_in x10 4096 ∧ vp_in (z9.1 31 13) 1010 ∧ ∀ z11 : St, z11 = wI z9 42 (z9.1 31 13).toNatClampNeg (z9.1 43 x10.toNatClampNeg) → ∀ z12 : St, z12 = wI z11 31 13 ((z11.1 31 13) + (1 : Int32)) → vp_in x10 4096 ∧ ∀ z13 : St, z13 = wI z12 43 x10.toNatClampNeg (z12.1 31 13) → ∀ x14 : Int32, x14 = v5 + 1 → L_M_spread_9 Q n v1 v2 v3 x14 z13)) ∧ (((z6.1 31 13) = (1001 : Int32)) → ∀ z15 : St, z15 = wI z6 31 12 (1 : Int32) → Q z15)) ∧ ((¬ x7 < 0) → ∀ x16 : Int32, x16 = v5 + 1 → L_M_spread_9 Q n v1 v2 v3 x16 z6))) ∧ ((x5 = 0) → Q z4)))))
def P_M_spread (a1 : Int32) (a2 : Int32) (z0 : St) (Q : St → Prop) : Prop := P_M_adds a1 z0 (fun (x2 : Int64) (z1 : St) => ∃ k9 : Nat, L_M_spread_9 Q k9 a1 a2 x2 (0 : Int32) z1)
set_option maxHeartbeats 4000000 in
set_option maxRecDepth 100000 in
theorem wL_M_spread_9 {Q : St → Prop} (E : En p l s m meth c args cc_M_spread 9 R_M none G) :
    ∀ (n : Nat) (v1 : Int32) (v2 : Int32) (v3 : Int64) (v5 : Int32) (z0 : St) (ls : Array Slot) (H : Heap) (locs : List Loc), L_M_spread_9 Q n v1 v2 v3 v5 z0 → lv_has ls 9 [(0, .ref (ha G 31)), (1, .int v1), (2, .int v2), (3, .long v3), (5, .int v5)] → Wd G z0 s.heap H locs → W p l e rm_M_spread s m args below meth c H locs 0 0 (MQ below (QvR Q G) args s 0 0 (fr G)) (F0 m 9 ls []) := by
  obtain ⟨hx, hb, hml, hown, hr, hlk, hex, hE⟩ := id E
  intro n
  induction n with
  | zero => exact fun _ _ _ _ _ _ _ _ hP _ _ => hP.elim
  | succ n ih =>
    intro v1 v2 v3 v5 z0 ls H locs hP hl hW
    refine lv_iload hx hb d_M_spread_9 (lv_at hl 4 rfl) ?_
    refine lv_aload_n hx hb d_M_spread_11 rfl (lv_at hl 0 rfl) ?_
    refine ygf_31_10 hx hb hown hE hW (lk_M_33 hE) d_M_spread_12 ?_
    refine lv_iload_n hx hb d_M_spread_15 rfl (lv_at hl 1 rfl) ?_
    refine ya_38 hx hb hE hW hP.1 d_M_spread_16 ?_
    have hP := hP.2
    refine lv_icmp_gt (tgt := 159) hx hb d_M_spread_17 rfl (fun hc => ?_) (fun hc => ?_)
    · have hP := hP.1 hc
      exact yr_v hx hb hr hlk hW hP d_M_spread_159
    · have hP := hP.2 hc
      refine lv_iload hx hb d_M_spread_20 (lv_at hl 4 rfl) ?_
      refine lv_bipush (v := 8) hx hb d_M_spread_22 (by decide) ?_
      refine lv_icmp_gt (tgt := 159) hx hb d_M_spread_24 rfl (fun hc => ?_) (fun hc => ?_)
      · have hP := hP.1 hc
        exact yr_v hx hb hr hlk hW hP d_M_spread_159
      · have hP := hP.2 hc
        refine lv_aload_n hx hb d_M_spread_27 rfl (lv_at hl 0 rfl) ?_
        refine ygf_31_12 hx hb hown hE hW (lk_M_123 hE) d_M_spread_28 ?_
        refine lv_if_ne (tgt := 159) hx hb d_M_spread_31 rfl (fun hc => ?_) (fun hc => ?_)
        · have hP := hP.1 hc
          exact yr_v hx hb hr hlk hW hP d_M_spread_159
        · have hP := hP.2 hc
          refine lv_aload_n hx hb d_M_spread_34 rfl (lv_at hl 0 rfl) ?_
          refine ygf_31_15 hx hb hown hE hW (lk_M_39 hE) d_M_spread_35 ?_
          refine lv_iload_n hx hb d_M_spread_38 rfl (lv_at hl 2 rfl) ?_
          refine ya_40 hx hb hE hW hP.1 d_M_spread_39 ?_
          have hP := hP.2
          refine lv_iload hx hb d_M_spread_40 (lv_at hl 4 rfl) ?_
          refine lv_i2l hx hb d_M_spread_42 rfl ?_
          refine lv_lload_n hx hb d_M_spread_43 rfl (lv_at hl 3 rfl) ?_
          refine lv_lmul hx hb d_M_spread_44 ?_
          refine lv_ladd hx hb d_M_spread_45 ?_
          refine lv_topl (fun x3 e_x3 => ?_)
          have hP := hP x3 e_x3
          refine lv_lstore (lv' := [(6, .long x3), (0, .ref (ha G 31)), (1, .int v1), (2, .int v2), (3, .long v3), (5, .int v5)]) hx hb d_M_spread_46 hl (by decide) rfl (fun ls hl => ?_)
          refine lv_aload_n hx hb d_M_spread_48 rfl (lv_at hl 1 rfl) ?_
          refine lv_lload hx hb d_M_spread_49 (lv_at hl 0 rfl) ?_
          refine yc_i (yV (As := [.long x3]) (rest := []) E (c_M_isAllowed _ _ _ hP) (cw_M_119 hE) (yrv_31 hE hW) (by decide) hW hl.1 rfl rfl rfl d_M_spread_51) hW (fun x5 z4 H locs hP hW => ?_)
          refine lv_if_ne (tgt := 58) hx hb d_M_spread_54 rfl (fun hc => ?_) (fun hc => ?_)
          · have hP := hP.1 hc
            refine lv_aload_n hx hb d_M_spread_58 rfl (lv_at hl 1 rfl) ?_
            refine lv_iload_n hx hb d_M_spread_59 rfl (lv_at hl 2 rfl) ?_
            refine lv_iconst (v := 1) hx hb d_M_spread_60 (by decide) ?_
            refine lv_iadd hx hb d_M_spread_61 ?_
            refine lv_lload hx hb d_M_spread_62 (lv_at hl 0 rfl) ?_
            refine yc_i (yV (As := [.int (v1 + (1 : Int32)), .long x3]) (rest := []) E (c_M_find _ _ _ _ hP) (cw_M_137 hE) (yrv_31 hE hW) (by decide) hW hl.1 rfl rfl rfl d_M_spread_64) hW (fun x7 z6 H locs hP hW => ?_)
            refine lv_if_lt (tgt := 73) hx hb d_M_spread_67 rfl (fun hc => ?_) (fun hc => ?_)
            · have hP := hP.1 hc
              refine lv_aload_n hx hb d_M_spread_73 rfl (lv_at hl 1 rfl) ?_
              refine ygf_31_13 hx hb hown hE hW (lk_M_126 hE) d_M_spread_74 ?_
              refine lv_sipush (v := 1001) hx hb d_M_spread_77 (by decide) ?_
              refine lv_icmp_ne (tgt := 89) hx hb d_M_spread_80 rfl (fun hc => ?_) (fun hc => ?_)
              · have hP := hP.1 hc
                refine lv_aload_n hx hb d_M_spread_89 rfl (lv_at hl 1 rfl) ?_
                refine ygf_31_15 hx hb hown hE hW (lk_M_39 hE) d_M_spread_90 ?_
                refine lv_aload_n hx hb d_M_spread_93 rfl (lv_at hl 1 rfl) ?_
                refine ygf_31_13 hx hb hown hE hW (lk_M_126 hE) d_M_spread_94 ?_
                refine lv_lload hx hb d_M_spread_97 (lv_at hl 0 rfl) ?_
                refine ys_40 hx hb hE hW hP.1 d_M_spread_99 (fun z8 H locs e_z8 hW => ?_)
                have hP := hP.2
                have hP := hP z8 e_z8
                refine lv_lload hx hb d_M_spread_100 (lv_at hl 0 rfl) ?_
                refine lv_ldc2 (v := 977) hx hb hown (lk_M_106 hE) d_M_spread_102 ?_
                refine lv_iload_n hx hb d_M_spread_105 rfl (lv_at hl 2 rfl) ?_
                refine lv_iconst (v := 1) hx hb d_M_spread_106 (by decide) ?_
                refine lv_iadd hx hb d_M_spread_107 ?_
                refine lv_i2l hx hb d_M_spread_108 rfl ?_
                refine lv_lmul hx hb d_M_spread_109 ?_
                refine lv_ladd hx hb d_M_spread_110 ?_
                refine yc_i (yS (As := [.long (x3 + ((977 : Int64) * ((v1 + (1 : Int32)).toInt64)))]) (rest := []) E (c_M_place _ _ _ hP) (cw_M_108 hE) (by decide) hW hl.1 rfl rfl rfl d_M_spread_111) hW (fun x10 z9 H locs hP hW => ?_)
                refine lv_istore (lv' := [(8, .int x10), (6, .long x3), (0, .ref (ha G 31)), (1, .int v1), (2, .int v2), (3, .long v3), (5, .int v5)]) hx hb d_M_spread_114 hl (by decide) rfl (fun ls hl => ?_)
                refine lv_aload_n hx hb d_M_spread_116 rfl (lv_at hl 2 rfl) ?_
                refine ygf_31_17 hx hb hown hE hW (lk_M_46 hE) d_M_spread_117 ?_
                refine lv_aload_n hx hb d_M_spread_120 rfl (lv_at hl 2 rfl) ?_
                refine ygf_31_13 hx hb hown hE hW (lk_M_126 hE) d_M_spread_121 ?_
                refine lv_aload_n hx hb d_M_spread_124 rfl (lv_at hl 2 rfl) ?_
                refine ygf_31_18 hx hb hown hE hW (lk_M_49 hE) d_M_spread_125 ?_
                refine lv_iload hx hb d_M_spread_128 (lv_at hl 0 rfl) ?_
                refine ya_43 hx hb hE hW hP.1 d_M_spread_130 ?_
                have hP := hP.2
                refine ys_42 hx hb hE hW hP.1 d_M_spread_131 (fun z11 H locs e_z11 hW => ?_)
                have hP := hP.2
                have hP := hP z11 e_z11
                refine lv_aload_n hx hb d_M_spread_132 rfl (lv_at hl 2 rfl) ?_
                refine lv_dup hx hb d_M_spread_133 rfl ?_
                refine ygf_31_13 hx hb hown hE hW (lk_M_126 hE) d_M_spread_134 ?_
                refine lv_iconst (v := 1) hx hb d_M_spread_137 (by decide) ?_
                refine lv_iadd hx hb d_M_spread_138 ?_
                refine ypf_31_13 hx hb hown hE hW (lk_M_126 hE) d_M_spread_139 (fun z12 H locs e_z12 hW => ?_)
                have hP := hP z12 e_z12
                refine lv_aload_n hx hb d_M_spread_142 rfl (lv_at hl 2 rfl) ?_
                refine ygf_31_18 hx hb hown hE hW (lk_M_49 hE) d_M_spread_143 ?_
                refine lv_iload hx hb d_M_spread_146 (lv_at hl 0 rfl) ?_
                refine lv_aload_n hx hb d_M_spread_148 rfl (lv_at hl 2 rfl) ?_
                refine ygf_31_13 hx hb hown hE hW (lk_M_126 hE) d_M_spread_149 ?_
                refine ys_43 hx hb hE hW hP.1 d_M_spread_152 (fun z13 H locs e_z13 hW => ?_)
                have hP := hP.2
                have hP := hP z13 e_z13
                obtain ⟨x14, e_x14⟩ : ∃ z : Int32, z = v5 + 1 := ⟨_, rfl⟩
                have hP := hP x14 e_x14
                refine lv_iinc (k := 6) (lv' := [(5, .int x14), (8, .int x10), (6, .long x3), (0, .ref (ha G 31)), (1, .int v1), (2, .int v2), (3, .long v3)]) hx hb d_M_spread_153 hl rfl (ii_p1 e_x14) (by decide) rfl (fun ls hl => ?_)
                refine lv_goto (tgt := 9) hx hb d_M_spread_156 rfl ?_
                exact ih _ _ _ _ _ _ _ _ hP (lv_sub hl [3, 4, 5, 6, 0] rfl) hW
              · have hP := hP.2 hc
                refine lv_aload_n hx hb d_M_spread_83 rfl (lv_at hl 1 rfl) ?_
                refine lv_iconst (v := 1) hx hb d_M_spread_84 (by decide) ?_
                refine ypf_31_12 hx hb hown hE hW zb_1 (lk_M_123 hE) d_M_spread_85 (fun z15 H locs e_z15 hW => ?_)
                have hP := hP z15 e_z15
                exact yr_v hx hb hr hlk hW hP d_M_spread_88
            · have hP := hP.2 hc
              refine lv_goto (tgt := 153) hx hb d_M_spread_70 rfl ?_
              obtain ⟨x16, e_x16⟩ : ∃ z : Int32, z = v5 + 1 := ⟨_, rfl⟩
              have hP := hP x16 e_x16
              refine lv_iinc (k := 5) (lv' := [(5, .int x16), (6, .long x3), (0, .ref (ha G 31)), (1, .int v1), (2, .int v2), (3, .long v3)]) hx hb d_M_spread_153 hl rfl (ii_p1 e_x16) (by decide) rfl (fun ls hl => ?_)
              refine lv_goto (tgt := 9) hx hb d_M_spread_156 rfl ?_
              exact ih _ _ _ _ _ _ _ _ hP (lv_sub hl [2, 3, 4, 5, 0] rfl) hW
          · have hP := hP.2 hc
            exact yr_v hx hb hr hlk hW hP d_M_spread_57
set_option maxHeartbeats 4000000 in
set_option maxRecDepth 100000 in
theorem c_M_spread {l : Launch} {G : GG} (a1 : Int32) (a2 : Int32) (z0 : St) (Q : St → Prop) (hP : P_M_spread a1 a2 z0 Q) : Ctv l y_M_spread cc_M_spread 9 none rm_M_spread G [.ref (ha G 31), .int a1, .int a2] z0 Q := by
  refine Ctv.op (own := R_M) (by decide) rfl (Nat.le_of_ble_eq_true rfl) (fun p e s m args below meth c ls E hl hW => ?_)
  obtain ⟨hx, hb, hml, hown, hr, hlk, hex, hE⟩ := id E
  have hl : lv_has ls 9 [(0, .ref (ha G 31)), (1, .int a1), (2, .int a2)] := hl
  refine lv_aload_n hx hb d_M_spread_0 rfl (lv_at hl 0 rfl) ?_
  refine lv_iload_n hx hb d_M_spread_1 rfl (lv_at hl 1 rfl) ?_
  refine yc_l (yV (As := [.int a1]) (rest := []) E (c_M_adds _ _ _ hP) (cw_M_133 hE) (yrv_31 hE hW) (by decide) hW hl.1 rfl rfl rfl d_M_spread_2) hW (fun x2 z1 H locs hP hW => ?_)
  refine lv_lstore_n (lv' := [(3, .long x2), (0, .ref (ha G 31)), (1, .int a1), (2, .int a2)]) hx hb d_M_spread_5 rfl hl (by decide) rfl (fun ls hl => ?_)
  refine lv_iconst (v := 0) hx hb d_M_spread_6 (by decide) ?_
  refine lv_istore (lv' := [(5, .int (0 : Int32)), (3, .long x2), (0, .ref (ha G 31)), (1, .int a1), (2, .int a2)]) hx hb d_M_spread_7 hl (by decide) rfl (fun ls hl => ?_)
  obtain ⟨n2, hP⟩ := hP
  refine wL_M_spread_9 E n2 _ _ _ _ _ _ _ _ hP (lv_sub hl [2, 3, 4, 1, 0] rfl) hW
theorem d_M_list_0 : decode cc_M_list 0 = .ok (.iconst 0, 1) := by decide +kernel
theorem d_M_list_1 : decode cc_M_list 1 = .ok (.istore_n 1, 1) := by decide +kernel
theorem d_M_list_2 : decode cc_M_list 2 = .ok (.iload_n 1, 1) := by decide +kernel
theorem d_M_list_3 : decode cc_M_list 3 = .ok (.sipush 4096, 3) := by decide +kernel
theorem d_M_list_6 : decode cc_M_list 6 = .ok (.if_icmp .ge 16, 3) := by decide +kernel
theorem d_M_list_9 : decode cc_M_list 9 = .ok (.aload_n 0, 1) := by decide +kernel
theorem d_M_list_10 : decode cc_M_list 10 = .ok (.getfield 49, 3) := by decide +kernel
theorem d_M_list_13 : decode cc_M_list 13 = .ok (.iload_n 1, 1) := by decide +kernel
theorem d_M_list_14 : decode cc_M_list 14 = .ok (.iconst 0, 1) := by decide +kernel
theorem d_M_list_15 : decode cc_M_list 15 = .ok (.iastore, 1) := by decide +kernel
theorem d_M_list_16 : decode cc_M_list 16 = .ok (.iinc 1 1, 3) := by decide +kernel
theorem d_M_list_19 : decode cc_M_list 19 = .ok (.goto (-17), 3) := by decide +kernel
theorem d_M_list_22 : decode cc_M_list 22 = .ok (.aload_n 0, 1) := by decide +kernel
theorem d_M_list_23 : decode cc_M_list 23 = .ok (.iconst 0, 1) := by decide +kernel
theorem d_M_list_24 : decode cc_M_list 24 = .ok (.putfield 123, 3) := by decide +kernel
theorem d_M_list_27 : decode cc_M_list 27 = .ok (.aload_n 0, 1) := by decide +kernel
theorem d_M_list_28 : decode cc_M_list 28 = .ok (.getfield 36, 3) := by decide +kernel
theorem d_M_list_31 : decode cc_M_list 31 = .ok (.iconst 0, 1) := by decide +kernel
theorem d_M_list_32 : decode cc_M_list 32 = .ok (.iconst 0, 1) := by decide +kernel
theorem d_M_list_33 : decode cc_M_list 33 = .ok (.iastore, 1) := by decide +kernel
theorem d_M_list_34 : decode cc_M_list 34 = .ok (.aload_n 0, 1) := by decide +kernel
theorem d_M_list_35 : decode cc_M_list 35 = .ok (.getfield 39, 3) := by decide +kernel
theorem d_M_list_38 : decode cc_M_list 38 = .ok (.iconst 0, 1) := by decide +kernel
theorem d_M_list_39 : decode cc_M_list 39 = .ok (.lconst 0, 1) := by decide +kernel
theorem d_M_list_40 : decode cc_M_list 40 = .ok (.lastore, 1) := by decide +kernel
theorem d_M_list_41 : decode cc_M_list 41 = .ok (.aload_n 0, 1) := by decide +kernel
theorem d_M_list_42 : decode cc_M_list 42 = .ok (.iconst 1, 1) := by decide +kernel
theorem d_M_list_43 : decode cc_M_list 43 = .ok (.putfield 126, 3) := by decide +kernel
theorem d_M_list_46 : decode cc_M_list 46 = .ok (.aload_n 0, 1) := by decide +kernel
theorem d_M_list_47 : decode cc_M_list 47 = .ok (.getfield 36, 3) := by decide +kernel
theorem d_M_list_50 : decode cc_M_list 50 = .ok (.iconst 1, 1) := by decide +kernel
theorem d_M_list_51 : decode cc_M_list 51 = .ok (.iconst 1, 1) := by decide +kernel
theorem d_M_list_52 : decode cc_M_list 52 = .ok (.iastore, 1) := by decide +kernel
theorem d_M_list_53 : decode cc_M_list 53 = .ok (.iconst 0, 1) := by decide +kernel
theorem d_M_list_54 : decode cc_M_list 54 = .ok (.istore_n 1, 1) := by decide +kernel
theorem d_M_list_55 : decode cc_M_list 55 = .ok (.iload_n 1, 1) := by decide +kernel
theorem d_M_list_56 : decode cc_M_list 56 = .ok (.aload_n 0, 1) := by decide +kernel
theorem d_M_list_57 : decode cc_M_list 57 = .ok (.getfield 73, 3) := by decide +kernel
theorem d_M_list_60 : decode cc_M_list 60 = .ok (.if_icmp .ge 77, 3) := by decide +kernel
theorem d_M_list_63 : decode cc_M_list 63 = .ok (.aload_n 0, 1) := by decide +kernel
theorem d_M_list_64 : decode cc_M_list 64 = .ok (.getfield 123, 3) := by decide +kernel
theorem d_M_list_67 : decode cc_M_list 67 = .ok (.ifCond .ne 70, 3) := by decide +kernel
theorem d_M_list_70 : decode cc_M_list 70 = .ok (.aload_n 0, 1) := by decide +kernel
theorem d_M_list_71 : decode cc_M_list 71 = .ok (.getfield 36, 3) := by decide +kernel
theorem d_M_list_74 : decode cc_M_list 74 = .ok (.iload_n 1, 1) := by decide +kernel
theorem d_M_list_75 : decode cc_M_list 75 = .ok (.iconst 2, 1) := by decide +kernel
theorem d_M_list_76 : decode cc_M_list 76 = .ok (.iadd, 1) := by decide +kernel
theorem d_M_list_77 : decode cc_M_list 77 = .ok (.sipush 1010, 3) := by decide +kernel
theorem d_M_list_80 : decode cc_M_list 80 = .ok (.iastore, 1) := by decide +kernel
theorem d_M_list_81 : decode cc_M_list 81 = .ok (.aload_n 0, 1) := by decide +kernel
theorem d_M_list_82 : decode cc_M_list 82 = .ok (.getfield 36, 3) := by decide +kernel
theorem d_M_list_85 : decode cc_M_list 85 = .ok (.iload_n 1, 1) := by decide +kernel
theorem d_M_list_86 : decode cc_M_list 86 = .ok (.iaload, 1) := by decide +kernel
theorem d_M_list_87 : decode cc_M_list 87 = .ok (.istore_n 2, 1) := by decide +kernel
theorem d_M_list_88 : decode cc_M_list 88 = .ok (.iload_n 2, 1) := by decide +kernel
theorem d_M_list_89 : decode cc_M_list 89 = .ok (.aload_n 0, 1) := by decide +kernel
theorem d_M_list_90 : decode cc_M_list 90 = .ok (.getfield 36, 3) := by decide +kernel
theorem d_M_list_93 : decode cc_M_list 93 = .ok (.iload_n 1, 1) := by decide +kernel
theorem d_M_list_94 : decode cc_M_list 94 = .ok (.iconst 1, 1) := by decide +kernel
theorem d_M_list_95 : decode cc_M_list 95 = .ok (.iadd, 1) := by decide +kernel
theorem d_M_list_96 : decode cc_M_list 96 = .ok (.iaload, 1) := by decide +kernel
theorem d_M_list_97 : decode cc_M_list 97 = .ok (.if_icmp .ge 22, 3) := by decide +kernel
theorem d_M_list_100 : decode cc_M_list 100 = .ok (.aload_n 0, 1) := by decide +kernel
theorem d_M_list_101 : decode cc_M_list 101 = .ok (.getfield 123, 3) := by decide +kernel
theorem d_M_list_104 : decode cc_M_list 104 = .ok (.ifCond .ne 15, 3) := by decide +kernel
theorem d_M_list_107 : decode cc_M_list 107 = .ok (.aload_n 0, 1) := by decide +kernel
theorem d_M_list_108 : decode cc_M_list 108 = .ok (.iload_n 1, 1) := by decide +kernel
theorem d_M_list_109 : decode cc_M_list 109 = .ok (.iload_n 2, 1) := by decide +kernel
theorem d_M_list_110 : decode cc_M_list 110 = .ok (.invokevirtual 129, 3) := by decide +kernel
theorem d_M_list_113 : decode cc_M_list 113 = .ok (.iinc 2 1, 3) := by decide +kernel
theorem d_M_list_116 : decode cc_M_list 116 = .ok (.goto (-28), 3) := by decide +kernel
theorem d_M_list_119 : decode cc_M_list 119 = .ok (.aload_n 0, 1) := by decide +kernel
theorem d_M_list_120 : decode cc_M_list 120 = .ok (.getfield 36, 3) := by decide +kernel
theorem d_M_list_123 : decode cc_M_list 123 = .ok (.iload_n 1, 1) := by decide +kernel
theorem d_M_list_124 : decode cc_M_list 124 = .ok (.iconst 2, 1) := by decide +kernel
theorem d_M_list_125 : decode cc_M_list 125 = .ok (.iadd, 1) := by decide +kernel
theorem d_M_list_126 : decode cc_M_list 126 = .ok (.aload_n 0, 1) := by decide +kernel
theorem d_M_list_127 : decode cc_M_list 127 = .ok (.getfield 126, 3) := by decide +kernel
theorem d_M_list_130 : decode cc_M_list 130 = .ok (.iastore, 1) := by decide +kernel
theorem d_M_list_131 : decode cc_M_list 131 = .ok (.iinc 1 1, 3) := by decide +kernel
theorem d_M_list_134 : decode cc_M_list 134 = .ok (.goto (-79), 3) := by decide +kernel
theorem d_M_list_137 : decode cc_M_list 137 = .ok (.return_, 1) := by decide +kernel
def L_M_list_2 (K22 : St → Prop) (Q : St → Prop) : Nat → Int32 → St → Prop
  | 0, _, _ => False
  | n + 1, v1, z0 => (((4096 : Int32) ≤ v1) → K22 z0) ∧ ((¬ (4096 : Int32) ≤ v1) → vp_in v1 4096 ∧ ∀ z1 : St, z1 = wI z0 43 v1.toNatClampNeg (0 : Int32) → ∀ x2 : Int32, x2 = v1 + 1 → L_M_list_2 K22 Q n x2 z1)
def L_M_list_88 (K119 : Int32 → St → Prop) (Q : St → Prop) : Nat → Int32 → Int32 → St → Prop
  | 0, _, _, _ => False
  | n + 1, v1, v2, z0 => vp_in (v1 + (1 : Int32)) 18 ∧ (((z0.1 39 (v1 + (1 : Int32)).toNatClampNeg) ≤ v2) → K119 v1 z0) ∧ ((¬ (z0.1 39 (v1 + (1 : Int32)).toNatClampNeg) ≤ v2) → ((¬ (z0.1 31 12) = 0) → K119 v1 z0) ∧ (((z0.1 31 12) = 0) → P_M_spread v1 v2 z0 (fun (z11 : St) => ∀ x12 : Int32, x12 = v2 + 1 → L_M_list_88 K119 Q n v1 x12 z11)))
def J_M_list_119 (K55 : Int32 → St → Prop) (Q : St → Prop) (v1 : Int32) (z0 : St) : Prop := vp_in (v1 + (2 : Int32)) 18 ∧ ∀ z15 : St, z15 = wI z0 39 (v1 + (2 : Int32)).toNatClampNeg (z0.1 31 13) → ∀ x16 : Int32, x16 = v1 + 1 → K55 x16 z15
def L_M_list_55 (Q : St → Prop) : Nat → Int32 → St → Prop
  | 0, _, _ => False
  | n + 1, v1, z0 => (((z0.1 31 8) ≤ v1) → Q z0) ∧ ((¬ (z0.1 31 8) ≤ v1) → ((¬ (z0.1 31 12) = 0) → Q z0) ∧ (((z0.1 31 12) = 0) → vp_in (v1 + (2 : Int32)) 18 ∧ ∀ z9 : St, z9 = wI z0 39 (v1 + (2 : Int32)).toNatClampNeg (1010 : Int32) → vp_in v1 18 ∧ ∀ x10 : Int32, x10 = (z9.1 39 v1.toNatClampNeg) → ∃ k88 : Nat, L_M_list_88 (fun (x13 : Int32) (z14 : St) => J_M_list_119 (L_M_list_55 Q n) Q x13 z14) Q k88 v1 x10 z9))
def P_M_list (z0 : St) (Q : St → Prop) : Prop := ∃ k2 : Nat, L_M_list_2 (fun (z3 : St) => ∀ z4 : St, z4 = wI z3 31 12 (0 : Int32) → vp_in (0 : Int32) 18 ∧ ∀ z5 : St, z5 = wI z4 39 (0 : Int32).toNatClampNeg (0 : Int32) → vp_in (0 : Int32) 1010 ∧ ∀ z6 : St, z6 = wL z5 40 (0 : Int32).toNatClampNeg (0 : Int64) → ∀ z7 : St, z7 = wI z6 31 13 (1 : Int32) → vp_in (1 : Int32) 18 ∧ ∀ z8 : St, z8 = wI z7 39 (1 : Int32).toNatClampNeg (1 : Int32) → ∃ k55 : Nat, L_M_list_55 Q k55 (0 : Int32) z8) Q k2 (0 : Int32) z0
set_option maxHeartbeats 4000000 in
set_option maxRecDepth 100000 in
theorem wL_M_list_2 {K22 : St → Prop} {Q : St → Prop} (E : En p l s m meth c args cc_M_list 3 R_M none G)
    (hK22 : ∀ (z0 : St) (ls : Array Slot) (H : Heap) (locs : List Loc), K22 z0 → lv_has ls 3 [(0, .ref (ha G 31))] → Wd G z0 s.heap H locs → W p l e rm_M_list s m args below meth c H locs 0 0 (MQ below (QvR Q G) args s 0 0 (fr G)) (F0 m 22 ls [])) :
    ∀ (n : Nat) (v1 : Int32) (z0 : St) (ls : Array Slot) (H : Heap) (locs : List Loc), L_M_list_2 K22 Q n v1 z0 → lv_has ls 3 [(0, .ref (ha G 31)), (1, .int v1)] → Wd G z0 s.heap H locs → W p l e rm_M_list s m args below meth c H locs 0 0 (MQ below (QvR Q G) args s 0 0 (fr G)) (F0 m 2 ls []) := by
  obtain ⟨hx, hb, hml, hown, hr, hlk, hex, hE⟩ := id E
  intro n
  induction n with
  | zero => exact fun _ _ _ _ _ hP _ _ => hP.elim
  | succ n ih =>
    intro v1 z0 ls H locs hP hl hW
    refine lv_iload_n hx hb d_M_list_2 rfl (lv_at hl 1 rfl) ?_
    refine lv_sipush (v := 4096) hx hb d_M_list_3 (by decide) ?_
    refine lv_icmp_ge (tgt := 22) hx hb d_M_list_6 rfl (fun hc => ?_) (fun hc => ?_)
    · have hP := hP.1 hc
      exact hK22 _ _ _ _ hP (lv_sub hl [0] rfl) hW
    · have hP := hP.2 hc
      refine lv_aload_n hx hb d_M_list_9 rfl (lv_at hl 0 rfl) ?_
      refine ygf_31_18 hx hb hown hE hW (lk_M_49 hE) d_M_list_10 ?_
      refine lv_iload_n hx hb d_M_list_13 rfl (lv_at hl 1 rfl) ?_
      refine lv_iconst (v := 0) hx hb d_M_list_14 (by decide) ?_
      refine ys_43 hx hb hE hW hP.1 d_M_list_15 (fun z1 H locs e_z1 hW => ?_)
      have hP := hP.2
      have hP := hP z1 e_z1
      obtain ⟨x2, e_x2⟩ : ∃ z : Int32, z = v1 + 1 := ⟨_, rfl⟩
      have hP := hP x2 e_x2
      refine lv_iinc (k := 1) (lv' := [(1, .int x2), (0, .ref (ha G 31))]) hx hb d_M_list_16 hl rfl (ii_p1 e_x2) (by decide) rfl (fun ls hl => ?_)
      refine lv_goto (tgt := 2) hx hb d_M_list_19 rfl ?_
      exact ih _ _ _ _ _ hP (lv_sub hl [1, 0] rfl) hW
set_option maxHeartbeats 4000000 in
set_option maxRecDepth 100000 in
theorem wL_M_list_88 {K119 : Int32 → St → Prop} {Q : St → Prop} (E : En p l s m meth c args cc_M_list 3 R_M none G)
    (hK119 : ∀ (v1 : Int32) (z0 : St) (ls : Array Slot) (H : Heap) (locs : List Loc), K119 v1 z0 → lv_has ls 3 [(0, .ref (ha G 31)), (1, .int v1)] → Wd G z0 s.heap H locs → W p l e rm_M_list s m args below meth c H locs 0 0 (MQ below (QvR Q G) args s 0 0 (fr G)) (F0 m 119 ls [])) :
    ∀ (n : Nat) (v1 : Int32) (v2 : Int32) (z0 : St) (ls : Array Slot) (H : Heap) (locs : List Loc), L_M_list_88 K119 Q n v1 v2 z0 → lv_has ls 3 [(0, .ref (ha G 31)), (1, .int v1), (2, .int v2)] → Wd G z0 s.heap H locs → W p l e rm_M_list s m args below meth c H locs 0 0 (MQ below (QvR Q G) args s 0 0 (fr G)) (F0 m 88 ls []) := by
  obtain ⟨hx, hb, hml, hown, hr, hlk, hex, hE⟩ := id E
  intro n
  induction n with
  | zero => exact fun _ _ _ _ _ _ hP _ _ => hP.elim
  | succ n ih =>
    intro v1 v2 z0 ls H locs hP hl hW
    refine lv_iload_n hx hb d_M_list_88 rfl (lv_at hl 2 rfl) ?_
    refine lv_aload_n hx hb d_M_list_89 rfl (lv_at hl 0 rfl) ?_
    refine ygf_31_14 hx hb hown hE hW (lk_M_36 hE) d_M_list_90 ?_
    refine lv_iload_n hx hb d_M_list_93 rfl (lv_at hl 1 rfl) ?_
    refine lv_iconst (v := 1) hx hb d_M_list_94 (by decide) ?_
    refine lv_iadd hx hb d_M_list_95 ?_
    refine ya_39 hx hb hE hW hP.1 d_M_list_96 ?_
    have hP := hP.2
    refine lv_icmp_ge (tgt := 119) hx hb d_M_list_97 rfl (fun hc => ?_) (fun hc => ?_)
    · have hP := hP.1 hc
      exact hK119 _ _ _ _ _ hP (lv_sub hl [0, 1] rfl) hW
    · have hP := hP.2 hc
      refine lv_aload_n hx hb d_M_list_100 rfl (lv_at hl 0 rfl) ?_
      refine ygf_31_12 hx hb hown hE hW (lk_M_123 hE) d_M_list_101 ?_
      refine lv_if_ne (tgt := 119) hx hb d_M_list_104 rfl (fun hc => ?_) (fun hc => ?_)
      · have hP := hP.1 hc
        exact hK119 _ _ _ _ _ hP (lv_sub hl [0, 1] rfl) hW
      · have hP := hP.2 hc
        refine lv_aload_n hx hb d_M_list_107 rfl (lv_at hl 0 rfl) ?_
        refine lv_iload_n hx hb d_M_list_108 rfl (lv_at hl 1 rfl) ?_
        refine lv_iload_n hx hb d_M_list_109 rfl (lv_at hl 2 rfl) ?_
        refine yc_v (yV (As := [.int v1, .int v2]) (rest := []) E (c_M_spread _ _ _ _ hP) (cw_M_129 hE) (yrv_31 hE hW) (by decide) hW hl.1 rfl rfl rfl d_M_list_110) hW (fun z11 H locs hP hW => ?_)
        obtain ⟨x12, e_x12⟩ : ∃ z : Int32, z = v2 + 1 := ⟨_, rfl⟩
        have hP := hP x12 e_x12
        refine lv_iinc (k := 2) (lv' := [(2, .int x12), (0, .ref (ha G 31)), (1, .int v1)]) hx hb d_M_list_113 hl rfl (ii_p1 e_x12) (by decide) rfl (fun ls hl => ?_)
        refine lv_goto (tgt := 88) hx hb d_M_list_116 rfl ?_
        exact ih _ _ _ _ _ _ hP (lv_sub hl [1, 2, 0] rfl) hW
set_option maxHeartbeats 4000000 in
set_option maxRecDepth 100000 in
theorem wJ_M_list_119 {K55 : Int32 → St → Prop} {Q : St → Prop} (E : En p l s m meth c args cc_M_list 3 R_M none G)
    (hK55 : ∀ (v1 : Int32) (z0 : St) (ls : Array Slot) (H : Heap) (locs : List Loc), K55 v1 z0 → lv_has ls 3 [(0, .ref (ha G 31)), (1, .int v1)] → Wd G z0 s.heap H locs → W p l e rm_M_list s m args below meth c H locs 0 0 (MQ below (QvR Q G) args s 0 0 (fr G)) (F0 m 55 ls []))
    (v1 : Int32) (z0 : St) (ls : Array Slot) (H : Heap) (locs : List Loc) (hP : J_M_list_119 K55 Q v1 z0) (hl : lv_has ls 3 [(0, .ref (ha G 31)), (1, .int v1)]) (hW : Wd G z0 s.heap H locs) : W p l e rm_M_list s m args below meth c H locs 0 0 (MQ below (QvR Q G) args s 0 0 (fr G)) (F0 m 119 ls []) := by
  obtain ⟨hx, hb, hml, hown, hr, hlk, hex, hE⟩ := id E
  refine lv_aload_n hx hb d_M_list_119 rfl (lv_at hl 0 rfl) ?_
  refine ygf_31_14 hx hb hown hE hW (lk_M_36 hE) d_M_list_120 ?_
  refine lv_iload_n hx hb d_M_list_123 rfl (lv_at hl 1 rfl) ?_
  refine lv_iconst (v := 2) hx hb d_M_list_124 (by decide) ?_
  refine lv_iadd hx hb d_M_list_125 ?_
  refine lv_aload_n hx hb d_M_list_126 rfl (lv_at hl 0 rfl) ?_
  refine ygf_31_13 hx hb hown hE hW (lk_M_126 hE) d_M_list_127 ?_
  refine ys_39 hx hb hE hW hP.1 d_M_list_130 (fun z15 H locs e_z15 hW => ?_)
  have hP := hP.2
  have hP := hP z15 e_z15
  obtain ⟨x16, e_x16⟩ : ∃ z : Int32, z = v1 + 1 := ⟨_, rfl⟩
  have hP := hP x16 e_x16
  refine lv_iinc (k := 1) (lv' := [(1, .int x16), (0, .ref (ha G 31))]) hx hb d_M_list_131 hl rfl (ii_p1 e_x16) (by decide) rfl (fun ls hl => ?_)
  refine lv_goto (tgt := 55) hx hb d_M_list_134 rfl ?_
  exact hK55 _ _ _ _ _ hP (lv_sub hl [1, 0] rfl) hW
set_option maxHeartbeats 4000000 in
set_option maxRecDepth 100000 in
theorem wL_M_list_55 {Q : St → Prop} (E : En p l s m meth c args cc_M_list 3 R_M none G) :
    ∀ (n : Nat) (v1 : Int32) (z0 : St) (ls : Array Slot) (H : Heap) (locs : List Loc), L_M_list_55 Q n v1 z0 → lv_has ls 3 [(0, .ref (ha G 31)), (1, .int v1)] → Wd G z0 s.heap H locs → W p l e rm_M_list s m args below meth c H locs 0 0 (MQ below (QvR Q G) args s 0 0 (fr G)) (F0 m 55 ls []) := by
  obtain ⟨hx, hb, hml, hown, hr, hlk, hex, hE⟩ := id E
  intro n
  induction n with
  | zero => exact fun _ _ _ _ _ hP _ _ => hP.elim
  | succ n ih =>
    intro v1 z0 ls H locs hP hl hW
    refine lv_iload_n hx hb d_M_list_55 rfl (lv_at hl 1 rfl) ?_
    refine lv_aload_n hx hb d_M_list_56 rfl (lv_at hl 0 rfl) ?_
    refine ygf_31_8 hx hb hown hE hW (lk_M_73 hE) d_M_list_57 ?_
    refine lv_icmp_ge (tgt := 137) hx hb d_M_list_60 rfl (fun hc => ?_) (fun hc => ?_)
    · have hP := hP.1 hc
      exact yr_v hx hb hr hlk hW hP d_M_list_137
    · have hP := hP.2 hc
      refine lv_aload_n hx hb d_M_list_63 rfl (lv_at hl 0 rfl) ?_
      refine ygf_31_12 hx hb hown hE hW (lk_M_123 hE) d_M_list_64 ?_
      refine lv_if_ne (tgt := 137) hx hb d_M_list_67 rfl (fun hc => ?_) (fun hc => ?_)
      · have hP := hP.1 hc
        exact yr_v hx hb hr hlk hW hP d_M_list_137
      · have hP := hP.2 hc
        refine lv_aload_n hx hb d_M_list_70 rfl (lv_at hl 0 rfl) ?_
        refine ygf_31_14 hx hb hown hE hW (lk_M_36 hE) d_M_list_71 ?_
        refine lv_iload_n hx hb d_M_list_74 rfl (lv_at hl 1 rfl) ?_
        refine lv_iconst (v := 2) hx hb d_M_list_75 (by decide) ?_
        refine lv_iadd hx hb d_M_list_76 ?_
        refine lv_sipush (v := 1010) hx hb d_M_list_77 (by decide) ?_
        refine ys_39 hx hb hE hW hP.1 d_M_list_80 (fun z9 H locs e_z9 hW => ?_)
        have hP := hP.2
        have hP := hP z9 e_z9
        refine lv_aload_n hx hb d_M_list_81 rfl (lv_at hl 0 rfl) ?_
        refine ygf_31_14 hx hb hown hE hW (lk_M_36 hE) d_M_list_82 ?_
        refine lv_iload_n hx hb d_M_list_85 rfl (lv_at hl 1 rfl) ?_
        refine ya_39 hx hb hE hW hP.1 d_M_list_86 ?_
        have hP := hP.2
        refine lv_topi (fun x10 e_x10 => ?_)
        have hP := hP x10 e_x10
        refine lv_istore_n (lv' := [(2, .int x10), (0, .ref (ha G 31)), (1, .int v1)]) hx hb d_M_list_87 rfl hl (by decide) rfl (fun ls hl => ?_)
        obtain ⟨n2, hP⟩ := hP
        refine wL_M_list_88 E ?_ n2 _ _ _ _ _ _ hP (lv_sub hl [1, 2, 0] rfl) hW
        · intro x13 z14 ls H locs hP hl hW
          exact wJ_M_list_119 E ih _ _ _ _ _ hP hl hW
set_option maxHeartbeats 4000000 in
set_option maxRecDepth 100000 in
theorem c_M_list {l : Launch} {G : GG} (z0 : St) (Q : St → Prop) (hP : P_M_list z0 Q) : Ctv l y_M_list cc_M_list 3 none rm_M_list G [.ref (ha G 31)] z0 Q := by
  refine Ctv.op (own := R_M) (by decide) rfl (Nat.le_of_ble_eq_true rfl) (fun p e s m args below meth c ls E hl hW => ?_)
  obtain ⟨hx, hb, hml, hown, hr, hlk, hex, hE⟩ := id E
  have hl : lv_has ls 3 [(0, .ref (ha G 31))] := hl
  refine lv_iconst (v := 0) hx hb d_M_list_0 (by decide) ?_
  refine lv_istore_n (lv' := [(1, .int (0 : Int32)), (0, .ref (ha G 31))]) hx hb d_M_list_1 rfl hl (by decide) rfl (fun ls hl => ?_)
  obtain ⟨n2, hP⟩ := hP
  refine wL_M_list_2 E ?_ n2 _ _ _ _ _ hP (lv_sub hl [1, 0] rfl) hW
  · intro z3 ls H locs hP hl hW
    refine lv_aload_n hx hb d_M_list_22 rfl (lv_at hl 0 rfl) ?_
    refine lv_iconst (v := 0) hx hb d_M_list_23 (by decide) ?_
    refine ypf_31_12 hx hb hown hE hW zb_0 (lk_M_123 hE) d_M_list_24 (fun z4 H locs e_z4 hW => ?_)
    have hP := hP z4 e_z4
    refine lv_aload_n hx hb d_M_list_27 rfl (lv_at hl 0 rfl) ?_
    refine ygf_31_14 hx hb hown hE hW (lk_M_36 hE) d_M_list_28 ?_
    refine lv_iconst (v := 0) hx hb d_M_list_31 (by decide) ?_
    refine lv_iconst (v := 0) hx hb d_M_list_32 (by decide) ?_
    refine ys_39 hx hb hE hW hP.1 d_M_list_33 (fun z5 H locs e_z5 hW => ?_)
    have hP := hP.2
    have hP := hP z5 e_z5
    refine lv_aload_n hx hb d_M_list_34 rfl (lv_at hl 0 rfl) ?_
    refine ygf_31_15 hx hb hown hE hW (lk_M_39 hE) d_M_list_35 ?_
    refine lv_iconst (v := 0) hx hb d_M_list_38 (by decide) ?_
    refine lv_lconst (v := 0) hx hb d_M_list_39 (by decide) ?_
    refine ys_40 hx hb hE hW hP.1 d_M_list_40 (fun z6 H locs e_z6 hW => ?_)
    have hP := hP.2
    have hP := hP z6 e_z6
    refine lv_aload_n hx hb d_M_list_41 rfl (lv_at hl 0 rfl) ?_
    refine lv_iconst (v := 1) hx hb d_M_list_42 (by decide) ?_
    refine ypf_31_13 hx hb hown hE hW (lk_M_126 hE) d_M_list_43 (fun z7 H locs e_z7 hW => ?_)
    have hP := hP z7 e_z7
    refine lv_aload_n hx hb d_M_list_46 rfl (lv_at hl 0 rfl) ?_
    refine ygf_31_14 hx hb hown hE hW (lk_M_36 hE) d_M_list_47 ?_
    refine lv_iconst (v := 1) hx hb d_M_list_50 (by decide) ?_
    refine lv_iconst (v := 1) hx hb d_M_list_51 (by decide) ?_
    refine ys_39 hx hb hE hW hP.1 d_M_list_52 (fun z8 H locs e_z8 hW => ?_)
    have hP := hP.2
    have hP := hP z8 e_z8
    refine lv_iconst (v := 0) hx hb d_M_list_53 (by decide) ?_
    refine lv_istore_n (lv' := [(1, .int (0 : Int32)), (0, .ref (ha G 31))]) hx hb d_M_list_54 rfl hl (by decide) rfl (fun ls hl => ?_)
    obtain ⟨n2, hP⟩ := hP
    refine wL_M_list_55 E n2 _ _ _ _ _ hP (lv_sub hl [1, 0] rfl) hW
theorem d_M_choose_0 : decode cc_M_choose 0 = .ok (.iload_n 1, 1) := by decide +kernel
theorem d_M_choose_1 : decode cc_M_choose 1 = .ok (.ifCond .lt 8, 3) := by decide +kernel
theorem d_M_choose_4 : decode cc_M_choose 4 = .ok (.iload_n 1, 1) := by decide +kernel
theorem d_M_choose_5 : decode cc_M_choose 5 = .ok (.iload_n 0, 1) := by decide +kernel
theorem d_M_choose_6 : decode cc_M_choose 6 = .ok (.if_icmp .le 5, 3) := by decide +kernel
theorem d_M_choose_9 : decode cc_M_choose 9 = .ok (.lconst 0, 1) := by decide +kernel
theorem d_M_choose_10 : decode cc_M_choose 10 = .ok (.lreturn, 1) := by decide +kernel
theorem d_M_choose_11 : decode cc_M_choose 11 = .ok (.lconst 1, 1) := by decide +kernel
theorem d_M_choose_12 : decode cc_M_choose 12 = .ok (.lstore_n 2, 1) := by decide +kernel
theorem d_M_choose_13 : decode cc_M_choose 13 = .ok (.iconst 1, 1) := by decide +kernel
theorem d_M_choose_14 : decode cc_M_choose 14 = .ok (.istore 4, 2) := by decide +kernel
theorem d_M_choose_16 : decode cc_M_choose 16 = .ok (.iload 4, 2) := by decide +kernel
theorem d_M_choose_18 : decode cc_M_choose 18 = .ok (.iload_n 1, 1) := by decide +kernel
theorem d_M_choose_19 : decode cc_M_choose 19 = .ok (.if_icmp .gt 23, 3) := by decide +kernel
theorem d_M_choose_22 : decode cc_M_choose 22 = .ok (.lload_n 2, 1) := by decide +kernel
theorem d_M_choose_23 : decode cc_M_choose 23 = .ok (.iload_n 0, 1) := by decide +kernel
theorem d_M_choose_24 : decode cc_M_choose 24 = .ok (.iload_n 1, 1) := by decide +kernel
theorem d_M_choose_25 : decode cc_M_choose 25 = .ok (.isub, 1) := by decide +kernel
theorem d_M_choose_26 : decode cc_M_choose 26 = .ok (.iload 4, 2) := by decide +kernel
theorem d_M_choose_28 : decode cc_M_choose 28 = .ok (.iadd, 1) := by decide +kernel
theorem d_M_choose_29 : decode cc_M_choose 29 = .ok (.i2l, 1) := by decide +kernel
theorem d_M_choose_30 : decode cc_M_choose 30 = .ok (.lmul, 1) := by decide +kernel
theorem d_M_choose_31 : decode cc_M_choose 31 = .ok (.iload 4, 2) := by decide +kernel
theorem d_M_choose_33 : decode cc_M_choose 33 = .ok (.i2l, 1) := by decide +kernel
theorem d_M_choose_34 : decode cc_M_choose 34 = .ok (.ldiv, 1) := by decide +kernel
theorem d_M_choose_35 : decode cc_M_choose 35 = .ok (.lstore_n 2, 1) := by decide +kernel
theorem d_M_choose_36 : decode cc_M_choose 36 = .ok (.iinc 4 1, 3) := by decide +kernel
theorem d_M_choose_39 : decode cc_M_choose 39 = .ok (.goto (-23), 3) := by decide +kernel
theorem d_M_choose_42 : decode cc_M_choose 42 = .ok (.lload_n 2, 1) := by decide +kernel
theorem d_M_choose_43 : decode cc_M_choose 43 = .ok (.lreturn, 1) := by decide +kernel
def L_M_choose_16 (Q : Int64 → St → Prop) : Nat → Int32 → Int32 → Int64 → Int32 → St → Prop
  | 0, _, _, _, _, _ => False
  | n + 1, v0, v1, v2, v4, z0 => ((v1 < v4) → Q v2 z0) ∧ ((¬ v1 < v4) → ¬ v4.toInt64 = 0 ∧ ∀ x1 : Int64, x1 = (v2 * (((v0 - v1) + v4).toInt64)) / v4.toInt64 → ∀ x2 : Int32, x2 = v4 + 1 → L_M_choose_16 Q n v0 v1 x1 x2 z0)
def P_M_choose (a0 : Int32) (a1 : Int32) (z0 : St) (Q : Int64 → St → Prop) : Prop := ((a1 < 0) → Q (0 : Int64) z0) ∧ ((¬ a1 < 0) → ((a1 ≤ a0) → ∃ k16 : Nat, L_M_choose_16 Q k16 a0 a1 (1 : Int64) (1 : Int32) z0) ∧ ((¬ a1 ≤ a0) → Q (0 : Int64) z0))
set_option maxHeartbeats 4000000 in
set_option maxRecDepth 100000 in
theorem wL_M_choose_16 {Q : Int64 → St → Prop} (E : En p l s m meth c args cc_M_choose 5 R_M (some .long) G) :
    ∀ (n : Nat) (v0 : Int32) (v1 : Int32) (v2 : Int64) (v4 : Int32) (z0 : St) (ls : Array Slot) (H : Heap) (locs : List Loc), L_M_choose_16 Q n v0 v1 v2 v4 z0 → lv_has ls 5 [(0, .int v0), (1, .int v1), (2, .long v2), (4, .int v4)] → Wd G z0 s.heap H locs → W p l e rm_M_choose s m args below meth c H locs 0 0 (MQ below (QlR Q G) args s 0 0 (fr G)) (F0 m 16 ls []) := by
  obtain ⟨hx, hb, hml, hown, hr, hlk, hex, hE⟩ := id E
  intro n
  induction n with
  | zero => exact fun _ _ _ _ _ _ _ _ hP _ _ => hP.elim
  | succ n ih =>
    intro v0 v1 v2 v4 z0 ls H locs hP hl hW
    refine lv_iload hx hb d_M_choose_16 (lv_at hl 3 rfl) ?_
    refine lv_iload_n hx hb d_M_choose_18 rfl (lv_at hl 1 rfl) ?_
    refine lv_icmp_gt (tgt := 42) hx hb d_M_choose_19 rfl (fun hc => ?_) (fun hc => ?_)
    · have hP := hP.1 hc
      refine lv_lload_n hx hb d_M_choose_42 rfl (lv_at hl 2 rfl) ?_
      exact yr_l hx hb hr hlk hW hP d_M_choose_43
    · have hP := hP.2 hc
      refine lv_lload_n hx hb d_M_choose_22 rfl (lv_at hl 2 rfl) ?_
      refine lv_iload_n hx hb d_M_choose_23 rfl (lv_at hl 0 rfl) ?_
      refine lv_iload_n hx hb d_M_choose_24 rfl (lv_at hl 1 rfl) ?_
      refine lv_isub hx hb d_M_choose_25 ?_
      refine lv_iload hx hb d_M_choose_26 (lv_at hl 3 rfl) ?_
      refine lv_iadd hx hb d_M_choose_28 ?_
      refine lv_i2l hx hb d_M_choose_29 rfl ?_
      refine lv_lmul hx hb d_M_choose_30 ?_
      refine lv_iload hx hb d_M_choose_31 (lv_at hl 3 rfl) ?_
      refine lv_i2l hx hb d_M_choose_33 rfl ?_
      refine lv_ldiv hx hb d_M_choose_34 hP.1 ?_
      have hP := hP.2
      refine lv_topl (fun x1 e_x1 => ?_)
      have hP := hP x1 e_x1
      refine lv_lstore_n (lv' := [(2, .long x1), (0, .int v0), (1, .int v1), (4, .int v4)]) hx hb d_M_choose_35 rfl hl (by decide) rfl (fun ls hl => ?_)
      obtain ⟨x2, e_x2⟩ : ∃ z : Int32, z = v4 + 1 := ⟨_, rfl⟩
      have hP := hP x2 e_x2
      refine lv_iinc (k := 3) (lv' := [(4, .int x2), (2, .long x1), (0, .int v0), (1, .int v1)]) hx hb d_M_choose_36 hl rfl (ii_p1 e_x2) (by decide) rfl (fun ls hl => ?_)
      refine lv_goto (tgt := 16) hx hb d_M_choose_39 rfl ?_
      exact ih _ _ _ _ _ _ _ _ hP (lv_sub hl [2, 3, 1, 0] rfl) hW
set_option maxHeartbeats 4000000 in
set_option maxRecDepth 100000 in
theorem c_M_choose {l : Launch} {G : GG} (a0 : Int32) (a1 : Int32) (z0 : St) (Q : Int64 → St → Prop) (hP : P_M_choose a0 a1 z0 Q) : Ctl l y_M_choose cc_M_choose 5 (some .long) rm_M_choose G [.int a0, .int a1] z0 Q := by
  refine Ctl.op (own := R_M) (by decide) rfl (Nat.le_of_ble_eq_true rfl) (fun p e s m args below meth c ls E hl hW => ?_)
  obtain ⟨hx, hb, hml, hown, hr, hlk, hex, hE⟩ := id E
  have hl : lv_has ls 5 [(0, .int a0), (1, .int a1)] := hl
  refine lv_iload_n hx hb d_M_choose_0 rfl (lv_at hl 1 rfl) ?_
  refine lv_if_lt (tgt := 9) hx hb d_M_choose_1 rfl (fun hc => ?_) (fun hc => ?_)
  · have hP := hP.1 hc
    refine lv_lconst (v := 0) hx hb d_M_choose_9 (by decide) ?_
    exact yr_l hx hb hr hlk hW hP d_M_choose_10
  · have hP := hP.2 hc
    refine lv_iload_n hx hb d_M_choose_4 rfl (lv_at hl 1 rfl) ?_
    refine lv_iload_n hx hb d_M_choose_5 rfl (lv_at hl 0 rfl) ?_
    refine lv_icmp_le (tgt := 11) hx hb d_M_choose_6 rfl (fun hc => ?_) (fun hc => ?_)
    · have hP := hP.1 hc
      refine lv_lconst (v := 1) hx hb d_M_choose_11 (by decide) ?_
      refine lv_lstore_n (lv' := [(2, .long (1 : Int64)), (0, .int a0), (1, .int a1)]) hx hb d_M_choose_12 rfl hl (by decide) rfl (fun ls hl => ?_)
      refine lv_iconst (v := 1) hx hb d_M_choose_13 (by decide) ?_
      refine lv_istore (lv' := [(4, .int (1 : Int32)), (2, .long (1 : Int64)), (0, .int a0), (1, .int a1)]) hx hb d_M_choose_14 hl (by decide) rfl (fun ls hl => ?_)
      obtain ⟨n2, hP⟩ := hP
      refine wL_M_choose_16 E n2 _ _ _ _ _ _ _ _ hP (lv_sub hl [2, 3, 1, 0] rfl) hW
    · have hP := hP.2 hc
      refine lv_lconst (v := 0) hx hb d_M_choose_9 (by decide) ?_
      exact yr_l hx hb hr hlk hW hP d_M_choose_10
theorem d_M_isPanel_0 : decode cc_M_isPanel 0 = .ok (.lload_n 1, 1) := by decide +kernel
theorem d_M_isPanel_1 : decode cc_M_isPanel 1 = .ok (.invokestatic 116, 3) := by decide +kernel
theorem d_M_isPanel_4 : decode cc_M_isPanel 4 = .ok (.aload_n 0, 1) := by decide +kernel
theorem d_M_isPanel_5 : decode cc_M_isPanel 5 = .ok (.getfield 26, 3) := by decide +kernel
theorem d_M_isPanel_8 : decode cc_M_isPanel 8 = .ok (.if_icmp .ne 15, 3) := by decide +kernel
theorem d_M_isPanel_11 : decode cc_M_isPanel 11 = .ok (.aload_n 0, 1) := by decide +kernel
theorem d_M_isPanel_12 : decode cc_M_isPanel 12 = .ok (.lload_n 1, 1) := by decide +kernel
theorem d_M_isPanel_13 : decode cc_M_isPanel 13 = .ok (.invokevirtual 119, 3) := by decide +kernel
theorem d_M_isPanel_16 : decode cc_M_isPanel 16 = .ok (.ifCond .eq 7, 3) := by decide +kernel
theorem d_M_isPanel_19 : decode cc_M_isPanel 19 = .ok (.iconst 1, 1) := by decide +kernel
theorem d_M_isPanel_20 : decode cc_M_isPanel 20 = .ok (.goto 4, 3) := by decide +kernel
theorem d_M_isPanel_23 : decode cc_M_isPanel 23 = .ok (.iconst 0, 1) := by decide +kernel
theorem d_M_isPanel_24 : decode cc_M_isPanel 24 = .ok (.istore_n 3, 1) := by decide +kernel
theorem d_M_isPanel_25 : decode cc_M_isPanel 25 = .ok (.iconst 0, 1) := by decide +kernel
theorem d_M_isPanel_26 : decode cc_M_isPanel 26 = .ok (.istore 4, 2) := by decide +kernel
theorem d_M_isPanel_28 : decode cc_M_isPanel 28 = .ok (.iload 4, 2) := by decide +kernel
theorem d_M_isPanel_30 : decode cc_M_isPanel 30 = .ok (.iconst 3, 1) := by decide +kernel
theorem d_M_isPanel_31 : decode cc_M_isPanel 31 = .ok (.if_icmp .ge 63, 3) := by decide +kernel
theorem d_M_isPanel_34 : decode cc_M_isPanel 34 = .ok (.iconst 0, 1) := by decide +kernel
theorem d_M_isPanel_35 : decode cc_M_isPanel 35 = .ok (.istore 5, 2) := by decide +kernel
theorem d_M_isPanel_37 : decode cc_M_isPanel 37 = .ok (.iload 5, 2) := by decide +kernel
theorem d_M_isPanel_39 : decode cc_M_isPanel 39 = .ok (.aload_n 0, 1) := by decide +kernel
theorem d_M_isPanel_40 : decode cc_M_isPanel 40 = .ok (.getfield 17, 3) := by decide +kernel
theorem d_M_isPanel_43 : decode cc_M_isPanel 43 = .ok (.iload 4, 2) := by decide +kernel
theorem d_M_isPanel_45 : decode cc_M_isPanel 45 = .ok (.iaload, 1) := by decide +kernel
theorem d_M_isPanel_46 : decode cc_M_isPanel 46 = .ok (.if_icmp .ge 42, 3) := by decide +kernel
theorem d_M_isPanel_49 : decode cc_M_isPanel 49 = .ok (.iload_n 3, 1) := by decide +kernel
theorem d_M_isPanel_50 : decode cc_M_isPanel 50 = .ok (.ifCond .eq 30, 3) := by decide +kernel
theorem d_M_isPanel_53 : decode cc_M_isPanel 53 = .ok (.lload_n 1, 1) := by decide +kernel
theorem d_M_isPanel_54 : decode cc_M_isPanel 54 = .ok (.iload 4, 2) := by decide +kernel
theorem d_M_isPanel_56 : decode cc_M_isPanel 56 = .ok (.iload 5, 2) := by decide +kernel
theorem d_M_isPanel_58 : decode cc_M_isPanel 58 = .ok (.invokestatic 112, 3) := by decide +kernel
theorem d_M_isPanel_61 : decode cc_M_isPanel 61 = .ok (.aload_n 0, 1) := by decide +kernel
theorem d_M_isPanel_62 : decode cc_M_isPanel 62 = .ok (.getfield 20, 3) := by decide +kernel
theorem d_M_isPanel_65 : decode cc_M_isPanel 65 = .ok (.iconst 4, 1) := by decide +kernel
theorem d_M_isPanel_66 : decode cc_M_isPanel 66 = .ok (.iload 4, 2) := by decide +kernel
theorem d_M_isPanel_68 : decode cc_M_isPanel 68 = .ok (.imul, 1) := by decide +kernel
theorem d_M_isPanel_69 : decode cc_M_isPanel 69 = .ok (.iload 5, 2) := by decide +kernel
theorem d_M_isPanel_71 : decode cc_M_isPanel 71 = .ok (.iadd, 1) := by decide +kernel
theorem d_M_isPanel_72 : decode cc_M_isPanel 72 = .ok (.iaload, 1) := by decide +kernel
theorem d_M_isPanel_73 : decode cc_M_isPanel 73 = .ok (.if_icmp .lt 7, 3) := by decide +kernel
theorem d_M_isPanel_76 : decode cc_M_isPanel 76 = .ok (.iconst 1, 1) := by decide +kernel
theorem d_M_isPanel_77 : decode cc_M_isPanel 77 = .ok (.goto 4, 3) := by decide +kernel
theorem d_M_isPanel_80 : decode cc_M_isPanel 80 = .ok (.iconst 0, 1) := by decide +kernel
theorem d_M_isPanel_81 : decode cc_M_isPanel 81 = .ok (.istore_n 3, 1) := by decide +kernel
theorem d_M_isPanel_82 : decode cc_M_isPanel 82 = .ok (.iinc 5 1, 3) := by decide +kernel
theorem d_M_isPanel_85 : decode cc_M_isPanel 85 = .ok (.goto (-48), 3) := by decide +kernel
theorem d_M_isPanel_88 : decode cc_M_isPanel 88 = .ok (.iinc 4 1, 3) := by decide +kernel
theorem d_M_isPanel_91 : decode cc_M_isPanel 91 = .ok (.goto (-63), 3) := by decide +kernel
theorem d_M_isPanel_94 : decode cc_M_isPanel 94 = .ok (.iload_n 3, 1) := by decide +kernel
theorem d_M_isPanel_95 : decode cc_M_isPanel 95 = .ok (.ireturn, 1) := by decide +kernel
def J_M_isPanel_80 (K37 : Int64 → Int32 → Int32 → Int32 → St → Prop) (K88 : Int64 → Int32 → Int32 → St → Prop) (Q : Int32 → St → Prop) (v1 : Int64) (v4 : Int32) (v5 : Int32) (z0 : St) : Prop := ∀ x3 : Int32, x3 = v5 + 1 → K37 v1 (0 : Int32) v4 x3 z0
def L_M_isPanel_37 (K88 : Int64 → Int32 → Int32 → St → Prop) (Q : Int32 → St → Prop) : Nat → Int64 → Int32 → Int32 → Int32 → St → Prop
  | 0, _, _, _, _, _ => False
  | n + 1, v1, v3, v4, v5, z0 => vp_in v4 3 ∧ (((z0.1 34 v4.toNatClampNeg) ≤ v5) → K88 v1 v3 v4 z0) ∧ ((¬ (z0.1 34 v4.toNatClampNeg) ≤ v5) → ((v3 = 0) → J_M_isPanel_80 (L_M_isPanel_37 K88 Q n) K88 Q v1 v4 v5 z0) ∧ ((¬ v3 = 0) → P_M_had v1 v4 v5 z0 (fun (x5 : Int32) (z4 : St) => vp_in (((4 : Int32) * v4) + v5) 12 ∧ ((x5 < (z4.1 35 (((4 : Int32) * v4) + v5).toNatClampNeg)) → J_M_isPanel_80 (L_M_isPanel_37 K88 Q n) K88 Q v1 v4 v5 z4) ∧ ((¬ x5 < (z4.1 35 (((4 : Int32) * v4) + v5).toNatClampNeg)) → ∀ x6 : Int32, x6 = v5 + 1 → L_M_isPanel_37 K88 Q n v1 (1 : Int32) v4 x6 z4))))
def L_M_isPanel_28 (Q : Int32 → St → Prop) : Nat → Int64 → Int32 → Int32 → St → Prop
  | 0, _, _, _, _ => False
  | n + 1, v1, v3, v4, z0 => (((3 : Int32) ≤ v4) → zb v3 ∧ Q v3 z0) ∧ ((¬ (3 : Int32) ≤ v4) → ∃ k37 : Nat, L_M_isPanel_37 (fun (x7 : Int64) (x8 : Int32) (x9 : Int32) (z10 : St) => ∀ x11 : Int32, x11 = x9 + 1 → L_M_isPanel_28 Q n x7 x8 x11 z10) Q k37 v1 v3 v4 (0 : Int32) z0)
def J_M_isPanel_23 (Q : Int32 → St → Prop) (v1 : Int64) (z0 : St) : Prop := ∃ k28 : Nat, L_M_isPanel_28 Q k28 v1 (0 : Int32) (0 : Int32) z0
def P_M_isPanel (a1 : Int64) (z0 : St) (Q : Int32 → St → Prop) : Prop := P_M_all a1 z0 (fun (x2 : Int32) (z1 : St) => ((¬ x2 = (z1.1 31 7)) → J_M_isPanel_23 Q a1 z1) ∧ ((x2 = (z1.1 31 7)) → P_M_isAllowed a1 z1 (fun (x13 : Int32) (z12 : St) => ((x13 = 0) → J_M_isPanel_23 Q a1 z12) ∧ ((¬ x13 = 0) → ∃ k28 : Nat, L_M_isPanel_28 Q k28 a1 (1 : Int32) (0 : Int32) z12))))
set_option maxHeartbeats 4000000 in
set_option maxRecDepth 100000 in
theorem wJ_M_isPanel_80 {K37 : Int64 → Int32 → Int32 → Int32 → St → Prop} {K88 : Int64 → Int32 → Int32 → St → Prop} {Q : Int32 → St → Prop} (E : En p l s m meth c args cc_M_isPanel 6 R_M (some .boolean) G)
    (hK37 : ∀ (v1 : Int64) (v3 : Int32) (v4 : Int32) (v5 : Int32) (z0 : St) (ls : Array Slot) (H : Heap) (locs : List Loc), K37 v1 v3 v4 v5 z0 → lv_has ls 6 [(0, .ref (ha G 31)), (1, .long v1), (3, .int v3), (4, .int v4), (5, .int v5)] → Wd G z0 s.heap H locs → W p l e rm_M_isPanel s m args below meth c H locs 0 0 (MQ below (QiR Q G) args s 0 0 (fr G)) (F0 m 37 ls []))
    (hK88 : ∀ (v1 : Int64) (v3 : Int32) (v4 : Int32) (z0 : St) (ls : Array Slot) (H : Heap) (locs : List Loc), K88 v1 v3 v4 z0 → lv_has ls 6 [(0, .ref (ha G 31)), (1, .long v1), (3, .int v3), (4, .int v4)] → Wd G z0 s.heap H locs → W p l e rm_M_isPanel s m args below meth c H locs 0 0 (MQ below (QiR Q G) args s 0 0 (fr G)) (F0 m 88 ls []))
    (v1 : Int64) (v4 : Int32) (v5 : Int32) (z0 : St) (ls : Array Slot) (H : Heap) (locs : List Loc) (hP : J_M_isPanel_80 K37 K88 Q v1 v4 v5 z0) (hl : lv_has ls 6 [(0, .ref (ha G 31)), (1, .long v1), (4, .int v4), (5, .int v5)]) (hW : Wd G z0 s.heap H locs) : W p l e rm_M_isPanel s m args below meth c H locs 0 0 (MQ below (QiR Q G) args s 0 0 (fr G)) (F0 m 80 ls []) := by
  obtain ⟨hx, hb, hml, hown, hr, hlk, hex, hE⟩ := id E
  refine lv_iconst (v := 0) hx hb d_M_isPanel_80 (by decide) ?_
  refine lv_istore_n (lv' := [(3, .int (0 : Int32)), (0, .ref (ha G 31)), (1, .long v1), (4, .int v4), (5, .int v5)]) hx hb d_M_isPanel_81 rfl hl (by decide) rfl (fun ls hl => ?_)
  obtain ⟨x3, e_x3⟩ : ∃ z : Int32, z = v5 + 1 := ⟨_, rfl⟩
  have hP := hP x3 e_x3
  refine lv_iinc (k := 4) (lv' := [(5, .int x3), (3, .int (0 : Int32)), (0, .ref (ha G 31)), (1, .long v1), (4, .int v4)]) hx hb d_M_isPanel_82 hl rfl (ii_p1 e_x3) (by decide) rfl (fun ls hl => ?_)
  refine lv_goto (tgt := 37) hx hb d_M_isPanel_85 rfl ?_
  exact hK37 _ _ _ _ _ _ _ _ hP (lv_sub hl [2, 3, 1, 4, 0] rfl) hW
set_option maxHeartbeats 4000000 in
set_option maxRecDepth 100000 in
theorem wL_M_isPanel_37 {K88 : Int64 → Int32 → Int32 → St → Prop} {Q : Int32 → St → Prop} (E : En p l s m meth c args cc_M_isPanel 6 R_M (some .boolean) G)
    (hK88 : ∀ (v1 : Int64) (v3 : Int32) (v4 : Int32) (z0 : St) (ls : Array Slot) (H : Heap) (locs : List Loc), K88 v1 v3 v4 z0 → lv_has ls 6 [(0, .ref (ha G 31)), (1, .long v1), (3, .int v3), (4, .int v4)] → Wd G z0 s.heap H locs → W p l e rm_M_isPanel s m args below meth c H locs 0 0 (MQ below (QiR Q G) args s 0 0 (fr G)) (F0 m 88 ls [])) :
    ∀ (n : Nat) (v1 : Int64) (v3 : Int32) (v4 : Int32) (v5 : Int32) (z0 : St) (ls : Array Slot) (H : Heap) (locs : List Loc), L_M_isPanel_37 K88 Q n v1 v3 v4 v5 z0 → lv_has ls 6 [(0, .ref (ha G 31)), (1, .long v1), (3, .int v3), (4, .int v4), (5, .int v5)] → Wd G z0 s.heap H locs → W p l e rm_M_isPanel s m args below meth c H locs 0 0 (MQ below (QiR Q G) args s 0 0 (fr G)) (F0 m 37 ls []) := by
  obtain ⟨hx, hb, hml, hown, hr, hlk, hex, hE⟩ := id E
  intro n
  induction n with
  | zero => exact fun _ _ _ _ _ _ _ _ hP _ _ => hP.elim
  | succ n ih =>
    intro v1 v3 v4 v5 z0 ls H locs hP hl hW
    refine lv_iload hx hb d_M_isPanel_37 (lv_at hl 4 rfl) ?_
    refine lv_aload_n hx hb d_M_isPanel_39 rfl (lv_at hl 0 rfl) ?_
    refine ygf_31_4 hx hb hown hE hW (lk_M_17 hE) d_M_isPanel_40 ?_
    refine lv_iload hx hb d_M_isPanel_43 (lv_at hl 3 rfl) ?_
    refine ya_34 hx hb hE hW hP.1 d_M_isPanel_45 ?_
    have hP := hP.2
    refine lv_icmp_ge (tgt := 88) hx hb d_M_isPanel_46 rfl (fun hc => ?_) (fun hc => ?_)
    · have hP := hP.1 hc
      exact hK88 _ _ _ _ _ _ _ hP (lv_sub hl [0, 1, 2, 3] rfl) hW
    · have hP := hP.2 hc
      refine lv_iload_n hx hb d_M_isPanel_49 rfl (lv_at hl 2 rfl) ?_
      refine lv_if_eq (tgt := 80) hx hb d_M_isPanel_50 rfl (fun hc => ?_) (fun hc => ?_)
      · have hP := hP.1 hc
        exact wJ_M_isPanel_80 E ih hK88 _ _ _ _ _ _ _ hP (lv_sub hl [0, 1, 3, 4] rfl) hW
      · have hP := hP.2 hc
        refine lv_lload_n hx hb d_M_isPanel_53 rfl (lv_at hl 1 rfl) ?_
        refine lv_iload hx hb d_M_isPanel_54 (lv_at hl 3 rfl) ?_
        refine lv_iload hx hb d_M_isPanel_56 (lv_at hl 4 rfl) ?_
        refine yc_i (yS (As := [.long v1, .int v4, .int v5]) (rest := []) E (c_M_had _ _ _ _ _ hP) (cw_M_112 hE) (by decide) hW hl.1 rfl rfl rfl d_M_isPanel_58) hW (fun x5 z4 H locs hP hW => ?_)
        refine lv_aload_n hx hb d_M_isPanel_61 rfl (lv_at hl 0 rfl) ?_
        refine ygf_31_5 hx hb hown hE hW (lk_M_20 hE) d_M_isPanel_62 ?_
        refine lv_iconst (v := 4) hx hb d_M_isPanel_65 (by decide) ?_
        refine lv_iload hx hb d_M_isPanel_66 (lv_at hl 3 rfl) ?_
        refine lv_imul hx hb d_M_isPanel_68 ?_
        refine lv_iload hx hb d_M_isPanel_69 (lv_at hl 4 rfl) ?_
        refine lv_iadd hx hb d_M_isPanel_71 ?_
        refine ya_35 hx hb hE hW hP.1 d_M_isPanel_72 ?_
        have hP := hP.2
        refine lv_icmp_lt (tgt := 80) hx hb d_M_isPanel_73 rfl (fun hc => ?_) (fun hc => ?_)
        · have hP := hP.1 hc
          exact wJ_M_isPanel_80 E ih hK88 _ _ _ _ _ _ _ hP (lv_sub hl [0, 1, 3, 4] rfl) hW
        · have hP := hP.2 hc
          refine lv_iconst (v := 1) hx hb d_M_isPanel_76 (by decide) ?_
          refine lv_goto (tgt := 81) hx hb d_M_isPanel_77 rfl ?_
          refine lv_istore_n (lv' := [(3, .int (1 : Int32)), (0, .ref (ha G 31)), (1, .long v1), (4, .int v4), (5, .int v5)]) hx hb d_M_isPanel_81 rfl hl (by decide) rfl (fun ls hl => ?_)
          obtain ⟨x6, e_x6⟩ : ∃ z : Int32, z = v5 + 1 := ⟨_, rfl⟩
          have hP := hP x6 e_x6
          refine lv_iinc (k := 4) (lv' := [(5, .int x6), (3, .int (1 : Int32)), (0, .ref (ha G 31)), (1, .long v1), (4, .int v4)]) hx hb d_M_isPanel_82 hl rfl (ii_p1 e_x6) (by decide) rfl (fun ls hl => ?_)
          refine lv_goto (tgt := 37) hx hb d_M_isPanel_85 rfl ?_
          exact ih _ _ _ _ _ _ _ _ hP (lv_sub hl [2, 3, 1, 4, 0] rfl) hW
set_option maxHeartbeats 4000000 in
set_option maxRecDepth 100000 in
theorem wL_M_isPanel_28 {Q : Int32 → St → Prop} (E : En p l s m meth c args cc_M_isPanel 6 R_M (some .boolean) G) :
    ∀ (n : Nat) (v1 : Int64) (v3 : Int32) (v4 : Int32) (z0 : St) (ls : Array Slot) (H : Heap) (locs : List Loc), L_M_isPanel_28 Q n v1 v3 v4 z0 → lv_has ls 6 [(0, .ref (ha G 31)), (1, .long v1), (3, .int v3), (4, .int v4)] → Wd G z0 s.heap H locs → W p l e rm_M_isPanel s m args below meth c H locs 0 0 (MQ below (QiR Q G) args s 0 0 (fr G)) (F0 m 28 ls []) := by
  obtain ⟨hx, hb, hml, hown, hr, hlk, hex, hE⟩ := id E
  intro n
  induction n with
  | zero => exact fun _ _ _ _ _ _ _ hP _ _ => hP.elim
  | succ n ih =>
    intro v1 v3 v4 z0 ls H locs hP hl hW
    refine lv_iload hx hb d_M_isPanel_28 (lv_at hl 3 rfl) ?_
    refine lv_iconst (v := 3) hx hb d_M_isPanel_30 (by decide) ?_
    refine lv_icmp_ge (tgt := 94) hx hb d_M_isPanel_31 rfl (fun hc => ?_) (fun hc => ?_)
    · have hP := hP.1 hc
      refine lv_iload_n hx hb d_M_isPanel_94 rfl (lv_at hl 2 rfl) ?_
      exact yr_z hx hb hr hlk hW hP.1 hP.2 d_M_isPanel_95
    · have hP := hP.2 hc
      refine lv_iconst (v := 0) hx hb d_M_isPanel_34 (by decide) ?_
      refine lv_istore (lv' := [(5, .int (0 : Int32)), (0, .ref (ha G 31)), (1, .long v1), (3, .int v3), (4, .int v4)]) hx hb d_M_isPanel_35 hl (by decide) rfl (fun ls hl => ?_)
      obtain ⟨n2, hP⟩ := hP
      refine wL_M_isPanel_37 E ?_ n2 _ _ _ _ _ _ _ _ hP (lv_sub hl [1, 2, 3, 4, 0] rfl) hW
      · intro x7 x8 x9 z10 ls H locs hP hl hW
        obtain ⟨x11, e_x11⟩ : ∃ z : Int32, z = x9 + 1 := ⟨_, rfl⟩
        have hP := hP x11 e_x11
        refine lv_iinc (k := 3) (lv' := [(4, .int x11), (0, .ref (ha G 31)), (1, .long x7), (3, .int x8)]) hx hb d_M_isPanel_88 hl rfl (ii_p1 e_x11) (by decide) rfl (fun ls hl => ?_)
        refine lv_goto (tgt := 28) hx hb d_M_isPanel_91 rfl ?_
        exact ih _ _ _ _ _ _ _ hP (lv_sub hl [1, 2, 3, 0] rfl) hW
set_option maxHeartbeats 4000000 in
set_option maxRecDepth 100000 in
theorem wJ_M_isPanel_23 {Q : Int32 → St → Prop} (E : En p l s m meth c args cc_M_isPanel 6 R_M (some .boolean) G)
    (v1 : Int64) (z0 : St) (ls : Array Slot) (H : Heap) (locs : List Loc) (hP : J_M_isPanel_23 Q v1 z0) (hl : lv_has ls 6 [(0, .ref (ha G 31)), (1, .long v1)]) (hW : Wd G z0 s.heap H locs) : W p l e rm_M_isPanel s m args below meth c H locs 0 0 (MQ below (QiR Q G) args s 0 0 (fr G)) (F0 m 23 ls []) := by
  obtain ⟨hx, hb, hml, hown, hr, hlk, hex, hE⟩ := id E
  refine lv_iconst (v := 0) hx hb d_M_isPanel_23 (by decide) ?_
  refine lv_istore_n (lv' := [(3, .int (0 : Int32)), (0, .ref (ha G 31)), (1, .long v1)]) hx hb d_M_isPanel_24 rfl hl (by decide) rfl (fun ls hl => ?_)
  refine lv_iconst (v := 0) hx hb d_M_isPanel_25 (by decide) ?_
  refine lv_istore (lv' := [(4, .int (0 : Int32)), (3, .int (0 : Int32)), (0, .ref (ha G 31)), (1, .long v1)]) hx hb d_M_isPanel_26 hl (by decide) rfl (fun ls hl => ?_)
  obtain ⟨n2, hP⟩ := hP
  refine wL_M_isPanel_28 E n2 _ _ _ _ _ _ _ hP (lv_sub hl [2, 3, 1, 0] rfl) hW
set_option maxHeartbeats 4000000 in
set_option maxRecDepth 100000 in
theorem c_M_isPanel {l : Launch} {G : GG} (a1 : Int64) (z0 : St) (Q : Int32 → St → Prop) (hP : P_M_isPanel a1 z0 Q) : Cti l y_M_isPanel cc_M_isPanel 6 (some .boolean) rm_M_isPanel G [.ref (ha G 31), .long a1] z0 Q := by
  refine Cti.op (own := R_M) (by decide) rfl (Nat.le_of_ble_eq_true rfl) (fun p e s m args below meth c ls E hl hW => ?_)
  obtain ⟨hx, hb, hml, hown, hr, hlk, hex, hE⟩ := id E
  have hl : lv_has ls 6 [(0, .ref (ha G 31)), (1, .long a1)] := hl
  refine lv_lload_n hx hb d_M_isPanel_0 rfl (lv_at hl 1 rfl) ?_
  refine yc_i (yS (As := [.long a1]) (rest := []) E (c_M_all _ _ _ hP) (cw_M_116 hE) (by decide) hW hl.1 rfl rfl rfl d_M_isPanel_1) hW (fun x2 z1 H locs hP hW => ?_)
  refine lv_aload_n hx hb d_M_isPanel_4 rfl (lv_at hl 0 rfl) ?_
  refine ygf_31_7 hx hb hown hE hW (lk_M_26 hE) d_M_isPanel_5 ?_
  refine lv_icmp_ne (tgt := 23) hx hb d_M_isPanel_8 rfl (fun hc => ?_) (fun hc => ?_)
  · have hP := hP.1 hc
    exact wJ_M_isPanel_23 E _ _ _ _ _ hP hl hW
  · have hP := hP.2 hc
    refine lv_aload_n hx hb d_M_isPanel_11 rfl (lv_at hl 0 rfl) ?_
    refine lv_lload_n hx hb d_M_isPanel_12 rfl (lv_at hl 1 rfl) ?_
    refine yc_i (yV (As := [.long a1]) (rest := []) E (c_M_isAllowed _ _ _ hP) (cw_M_119 hE) (yrv_31 hE hW) (by decide) hW hl.1 rfl rfl rfl d_M_isPanel_13) hW (fun x13 z12 H locs hP hW => ?_)
    refine lv_if_eq (tgt := 23) hx hb d_M_isPanel_16 rfl (fun hc => ?_) (fun hc => ?_)
    · have hP := hP.1 hc
      exact wJ_M_isPanel_23 E _ _ _ _ _ hP hl hW
    · have hP := hP.2 hc
      refine lv_iconst (v := 1) hx hb d_M_isPanel_19 (by decide) ?_
      refine lv_goto (tgt := 24) hx hb d_M_isPanel_20 rfl ?_
      refine lv_istore_n (lv' := [(3, .int (1 : Int32)), (0, .ref (ha G 31)), (1, .long a1)]) hx hb d_M_isPanel_24 rfl hl (by decide) rfl (fun ls hl => ?_)
      refine lv_iconst (v := 0) hx hb d_M_isPanel_25 (by decide) ?_
      refine lv_istore (lv' := [(4, .int (0 : Int32)), (3, .int (1 : Int32)), (0, .ref (ha G 31)), (1, .long a1)]) hx hb d_M_isPanel_26 hl (by decide) rfl (fun ls hl => ?_)
      obtain ⟨n2, hP⟩ := hP
      refine wL_M_isPanel_28 E n2 _ _ _ _ _ _ _ hP (lv_sub hl [2, 3, 1, 0] rfl) hW
end Code
