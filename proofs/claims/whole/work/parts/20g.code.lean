/-! M_gather, M_changed, M_trait, M_person, M_quota, M_size, M_adds, M_had, M_all -/
section Code
variable {p : Program} {l : Launch} {e : Env} {s : State} {m : MethodId} {args : Array Value} {below : List Frame} {meth : Method} {c : Code} {G : GG}
theorem d_M_gather_0 : decode cc_M_gather 0 = .ok (.aload_n 0, 1) := by decide +kernel
theorem d_M_gather_1 : decode cc_M_gather 1 = .ok (.iconst 0, 1) := by decide +kernel
theorem d_M_gather_2 : decode cc_M_gather 2 = .ok (.putfield 73, 3) := by decide +kernel
theorem d_M_gather_5 : decode cc_M_gather 5 = .ok (.iconst 0, 1) := by decide +kernel
theorem d_M_gather_6 : decode cc_M_gather 6 = .ok (.istore_n 1, 1) := by decide +kernel
theorem d_M_gather_7 : decode cc_M_gather 7 = .ok (.iload_n 1, 1) := by decide +kernel
theorem d_M_gather_8 : decode cc_M_gather 8 = .ok (.bipush 64, 2) := by decide +kernel
theorem d_M_gather_10 : decode cc_M_gather 10 = .ok (.if_icmp .ge 81, 3) := by decide +kernel
theorem d_M_gather_13 : decode cc_M_gather 13 = .ok (.iconst 0, 1) := by decide +kernel
theorem d_M_gather_14 : decode cc_M_gather 14 = .ok (.istore_n 2, 1) := by decide +kernel
theorem d_M_gather_15 : decode cc_M_gather 15 = .ok (.iconst 0, 1) := by decide +kernel
theorem d_M_gather_16 : decode cc_M_gather 16 = .ok (.istore_n 3, 1) := by decide +kernel
theorem d_M_gather_17 : decode cc_M_gather 17 = .ok (.iload_n 3, 1) := by decide +kernel
theorem d_M_gather_18 : decode cc_M_gather 18 = .ok (.aload_n 0, 1) := by decide +kernel
theorem d_M_gather_19 : decode cc_M_gather 19 = .ok (.getfield 76, 3) := by decide +kernel
theorem d_M_gather_22 : decode cc_M_gather 22 = .ok (.if_icmp .ge 26, 3) := by decide +kernel
theorem d_M_gather_25 : decode cc_M_gather 25 = .ok (.iload_n 2, 1) := by decide +kernel
theorem d_M_gather_26 : decode cc_M_gather 26 = .ok (.aload_n 0, 1) := by decide +kernel
theorem d_M_gather_27 : decode cc_M_gather 27 = .ok (.iload_n 3, 1) := by decide +kernel
theorem d_M_gather_28 : decode cc_M_gather 28 = .ok (.invokevirtual 79, 3) := by decide +kernel
theorem d_M_gather_31 : decode cc_M_gather 31 = .ok (.iload_n 1, 1) := by decide +kernel
theorem d_M_gather_32 : decode cc_M_gather 32 = .ok (.if_icmp .ne 7, 3) := by decide +kernel
theorem d_M_gather_35 : decode cc_M_gather 35 = .ok (.iconst 1, 1) := by decide +kernel
theorem d_M_gather_36 : decode cc_M_gather 36 = .ok (.goto 4, 3) := by decide +kernel
theorem d_M_gather_39 : decode cc_M_gather 39 = .ok (.iconst 0, 1) := by decide +kernel
theorem d_M_gather_40 : decode cc_M_gather 40 = .ok (.iadd, 1) := by decide +kernel
theorem d_M_gather_41 : decode cc_M_gather 41 = .ok (.istore_n 2, 1) := by decide +kernel
theorem d_M_gather_42 : decode cc_M_gather 42 = .ok (.iinc 3 1, 3) := by decide +kernel
theorem d_M_gather_45 : decode cc_M_gather 45 = .ok (.goto (-28), 3) := by decide +kernel
theorem d_M_gather_48 : decode cc_M_gather 48 = .ok (.iload_n 2, 1) := by decide +kernel
theorem d_M_gather_49 : decode cc_M_gather 49 = .ok (.ifCond .ne 6, 3) := by decide +kernel
theorem d_M_gather_52 : decode cc_M_gather 52 = .ok (.goto 33, 3) := by decide +kernel
theorem d_M_gather_55 : decode cc_M_gather 55 = .ok (.aload_n 0, 1) := by decide +kernel
theorem d_M_gather_56 : decode cc_M_gather 56 = .ok (.getfield 30, 3) := by decide +kernel
theorem d_M_gather_59 : decode cc_M_gather 59 = .ok (.aload_n 0, 1) := by decide +kernel
theorem d_M_gather_60 : decode cc_M_gather 60 = .ok (.getfield 73, 3) := by decide +kernel
theorem d_M_gather_63 : decode cc_M_gather 63 = .ok (.iload_n 1, 1) := by decide +kernel
theorem d_M_gather_64 : decode cc_M_gather 64 = .ok (.iastore, 1) := by decide +kernel
theorem d_M_gather_65 : decode cc_M_gather 65 = .ok (.aload_n 0, 1) := by decide +kernel
theorem d_M_gather_66 : decode cc_M_gather 66 = .ok (.getfield 33, 3) := by decide +kernel
theorem d_M_gather_69 : decode cc_M_gather 69 = .ok (.aload_n 0, 1) := by decide +kernel
theorem d_M_gather_70 : decode cc_M_gather 70 = .ok (.getfield 73, 3) := by decide +kernel
theorem d_M_gather_73 : decode cc_M_gather 73 = .ok (.iload_n 2, 1) := by decide +kernel
theorem d_M_gather_74 : decode cc_M_gather 74 = .ok (.iastore, 1) := by decide +kernel
theorem d_M_gather_75 : decode cc_M_gather 75 = .ok (.aload_n 0, 1) := by decide +kernel
theorem d_M_gather_76 : decode cc_M_gather 76 = .ok (.dup, 1) := by decide +kernel
theorem d_M_gather_77 : decode cc_M_gather 77 = .ok (.getfield 73, 3) := by decide +kernel
theorem d_M_gather_80 : decode cc_M_gather 80 = .ok (.iconst 1, 1) := by decide +kernel
theorem d_M_gather_81 : decode cc_M_gather 81 = .ok (.iadd, 1) := by decide +kernel
theorem d_M_gather_82 : decode cc_M_gather 82 = .ok (.putfield 73, 3) := by decide +kernel
theorem d_M_gather_85 : decode cc_M_gather 85 = .ok (.iinc 1 1, 3) := by decide +kernel
theorem d_M_gather_88 : decode cc_M_gather 88 = .ok (.goto (-81), 3) := by decide +kernel
theorem d_M_gather_91 : decode cc_M_gather 91 = .ok (.return_, 1) := by decide +kernel
def L_M_gather_17 (K48 : Int32 → Int32 → St → Prop) (Q : St → Prop) : Nat → Int32 → Int32 → Int32 → St → Prop
  | 0, _, _, _, _ => False
  | n + 1, v1, v2, v3, z0 => (((z0.1 31 1) ≤ v3) → K48 v1 v2 z0) ∧ ((¬ (z0.1 31 1) ≤ v3) → P_M_is v3 z0 (fun (x3 : Int32) (z2 : St) => ((¬ x3 = v1) → ∀ x4 : Int32, x4 = v2 + (0 : Int32) → ∀ x5 : Int32, x5 = v3 + 1 → L_M_gather_17 K48 Q n v1 x4 x5 z2) ∧ ((x3 = v1) → ∀ x6 : Int32, x6 = v2 + (1 : Int32) → ∀ x7 : Int32, x7 = v3 + 1 → L_M_gather_17 K48 Q n v1 x6 x7 z2)))
def L_M_gather_7 (Q : St → Prop) : Nat → Int32 → St → Prop
  | 0, _, _ => False
  | n + 1, v1, z0 => (((64 : Int32) ≤ v1) → Q z0) ∧ ((¬ (64 : Int32) ≤ v1) → ∃ k17 : Nat, L_M_gather_17 (fun (x8 : Int32) (x9 : Int32) (z10 : St) => ((¬ x9 = 0) → vp_in (z10.1 31 8) 17 ∧ ∀ z11 : St, z11 = wI z10 37 (z10.1 31 8).toNatClampNeg x8 → vp_in (z11.1 31 8) 17 ∧ ∀ z12 : St, z12 = wI z11 38 (z11.1 31 8).toNatClampNeg x9 → ∀ z13 : St, z13 = wI z12 31 8 ((z12.1 31 8) + (1 : Int32)) → ∀ x14 : Int32, x14 = x8 + 1 → L_M_gather_7 Q n x14 z13) ∧ ((x9 = 0) → ∀ x15 : Int32, x15 = x8 + 1 → L_M_gather_7 Q n x15 z10)) Q k17 v1 (0 : Int32) (0 : Int32) z0)
def P_M_gather (z0 : St) (Q : St → Prop) : Prop := ∀ z1 : St, z1 = wI z0 31 8 (0 : Int32) → ∃ k7 : Nat, L_M_gather_7 Q k7 (0 : Int32) z1
set_option maxHeartbeats 4000000 in
set_option maxRecDepth 100000 in
theorem wL_M_gather_17 {K48 : Int32 → Int32 → St → Prop} {Q : St → Prop} (E : En p l s m meth c args cc_M_gather 4 R_M none G)
    (hK48 : ∀ (v1 : Int32) (v2 : Int32) (z0 : St) (ls : Array Slot) (H : Heap) (locs : List Loc), K48 v1 v2 z0 → lv_has ls 4 [(0, .ref (ha G 31)), (1, .int v1), (2, .int v2)] → Wd G z0 s.heap H locs → W p l e rm_M_gather s m args below meth c H locs 0 0 (MQ below (QvR Q G) args s 0 0 (fr G)) (F0 m 48 ls [])) :
    ∀ (n : Nat) (v1 : Int32) (v2 : Int32) (v3 : Int32) (z0 : St) (ls : Array Slot) (H : Heap) (locs : List Loc), L_M_gather_17 K48 Q n v1 v2 v3 z0 → lv_has ls 4 [(0, .ref (ha G 31)), (1, .int v1), (2, .int v2), (3, .int v3)] → Wd G z0 s.heap H locs → W p l e rm_M_gather s m args below meth c H locs 0 0 (MQ below (QvR Q G) args s 0 0 (fr G)) (F0 m 17 ls []) := by
  obtain ⟨hx, hb, hml, hown, hr, hlk, hex, hE⟩ := id E
  intro n
  induction n with
  | zero => exact fun _ _ _ _ _ _ _ hP _ _ => hP.elim
  | succ n ih =>
    intro v1 v2 v3 z0 ls H locs hP hl hW
    refine lv_iload_n hx hb d_M_gather_17 rfl (lv_at hl 3 rfl) ?_
    refine lv_aload_n hx hb d_M_gather_18 rfl (lv_at hl 0 rfl) ?_
    refine ygf_31_1 hx hb hown hE hW (lk_M_76 hE) d_M_gather_19 ?_
    refine lv_icmp_ge (tgt := 48) hx hb d_M_gather_22 rfl (fun hc => ?_) (fun hc => ?_)
    · have hP := hP.1 hc
      exact hK48 _ _ _ _ _ _ hP (lv_sub hl [0, 1, 2] rfl) hW
    · have hP := hP.2 hc
      refine lv_iload_n hx hb d_M_gather_25 rfl (lv_at hl 2 rfl) ?_
      refine lv_aload_n hx hb d_M_gather_26 rfl (lv_at hl 0 rfl) ?_
      refine lv_iload_n hx hb d_M_gather_27 rfl (lv_at hl 3 rfl) ?_
      refine yc_i (yV (As := [.int v3]) (rest := [.int v2]) E (c_M_is _ _ _ hP) (cw_M_79 hE) (yrv_31 hE hW) (by decide) hW hl.1 rfl rfl rfl d_M_gather_28) hW (fun x3 z2 H locs hP hW => ?_)
      refine lv_iload_n hx hb d_M_gather_31 rfl (lv_at hl 1 rfl) ?_
      refine lv_icmp_ne (tgt := 39) hx hb d_M_gather_32 rfl (fun hc => ?_) (fun hc => ?_)
      · have hP := hP.1 hc
        refine lv_iconst (v := 0) hx hb d_M_gather_39 (by decide) ?_
        refine lv_iadd hx hb d_M_gather_40 ?_
        refine lv_topi (fun x4 e_x4 => ?_)
        have hP := hP x4 e_x4
        refine lv_istore_n (lv' := [(2, .int x4), (0, .ref (ha G 31)), (1, .int v1), (3, .int v3)]) hx hb d_M_gather_41 rfl hl (by decide) rfl (fun ls hl => ?_)
        obtain ⟨x5, e_x5⟩ : ∃ z : Int32, z = v3 + 1 := ⟨_, rfl⟩
        have hP := hP x5 e_x5
        refine lv_iinc (k := 3) (lv' := [(3, .int x5), (2, .int x4), (0, .ref (ha G 31)), (1, .int v1)]) hx hb d_M_gather_42 hl rfl (ii_p1 e_x5) (by decide) rfl (fun ls hl => ?_)
        refine lv_goto (tgt := 17) hx hb d_M_gather_45 rfl ?_
        exact ih _ _ _ _ _ _ _ hP (lv_sub hl [2, 3, 1, 0] rfl) hW
      · have hP := hP.2 hc
        refine lv_iconst (v := 1) hx hb d_M_gather_35 (by decide) ?_
        refine lv_goto (tgt := 40) hx hb d_M_gather_36 rfl ?_
        refine lv_iadd hx hb d_M_gather_40 ?_
        refine lv_topi (fun x6 e_x6 => ?_)
        have hP := hP x6 e_x6
        refine lv_istore_n (lv' := [(2, .int x6), (0, .ref (ha G 31)), (1, .int v1), (3, .int v3)]) hx hb d_M_gather_41 rfl hl (by decide) rfl (fun ls hl => ?_)
        obtain ⟨x7, e_x7⟩ : ∃ z : Int32, z = v3 + 1 := ⟨_, rfl⟩
        have hP := hP x7 e_x7
        refine lv_iinc (k := 3) (lv' := [(3, .int x7), (2, .int x6), (0, .ref (ha G 31)), (1, .int v1)]) hx hb d_M_gather_42 hl rfl (ii_p1 e_x7) (by decide) rfl (fun ls hl => ?_)
        refine lv_goto (tgt := 17) hx hb d_M_gather_45 rfl ?_
        exact ih _ _ _ _ _ _ _ hP (lv_sub hl [2, 3, 1, 0] rfl) hW
set_option maxHeartbeats 4000000 in
set_option maxRecDepth 100000 in
theorem wL_M_gather_7 {Q : St → Prop} (E : En p l s m meth c args cc_M_gather 4 R_M none G) :
    ∀ (n : Nat) (v1 : Int32) (z0 : St) (ls : Array Slot) (H : Heap) (locs : List Loc), L_M_gather_7 Q n v1 z0 → lv_has ls 4 [(0, .ref (ha G 31)), (1, .int v1)] → Wd G z0 s.heap H locs → W p l e rm_M_gather s m args below meth c H locs 0 0 (MQ below (QvR Q G) args s 0 0 (fr G)) (F0 m 7 ls []) := by
  obtain ⟨hx, hb, hml, hown, hr, hlk, hex, hE⟩ := id E
  intro n
  induction n with
  | zero => exact fun _ _ _ _ _ hP _ _ => hP.elim
  | succ n ih =>
    intro v1 z0 ls H locs hP hl hW
    refine lv_iload_n hx hb d_M_gather_7 rfl (lv_at hl 1 rfl) ?_
    refine lv_bipush (v := 64) hx hb d_M_gather_8 (by decide) ?_
    refine lv_icmp_ge (tgt := 91) hx hb d_M_gather_10 rfl (fun hc => ?_) (fun hc => ?_)
    · have hP := hP.1 hc
      exact yr_v hx hb hr hlk hW hP d_M_gather_91
    · have hP := hP.2 hc
      refine lv_iconst (v := 0) hx hb d_M_gather_13 (by decide) ?_
      refine lv_istore_n (lv' := [(2, .int (0 : Int32)), (0, .ref (ha G 31)), (1, .int v1)]) hx hb d_M_gather_14 rfl hl (by decide) rfl (fun ls hl => ?_)
      refine lv_iconst (v := 0) hx hb d_M_gather_15 (by decide) ?_
      refine lv_istore_n (lv' := [(3, .int (0 : Int32)), (2, .int (0 : Int32)), (0, .ref (ha G 31)), (1, .int v1)]) hx hb d_M_gather_16 rfl hl (by decide) rfl (fun ls hl => ?_)
      obtain ⟨n2, hP⟩ := hP
      refine wL_M_gather_17 E ?_ n2 _ _ _ _ _ _ _ hP (lv_sub hl [2, 3, 1, 0] rfl) hW
      · intro x8 x9 z10 ls H locs hP hl hW
        refine lv_iload_n hx hb d_M_gather_48 rfl (lv_at hl 2 rfl) ?_
        refine lv_if_ne (tgt := 55) hx hb d_M_gather_49 rfl (fun hc => ?_) (fun hc => ?_)
        · have hP := hP.1 hc
          refine lv_aload_n hx hb d_M_gather_55 rfl (lv_at hl 0 rfl) ?_
          refine ygf_31_9 hx hb hown hE hW (lk_M_30 hE) d_M_gather_56 ?_
          refine lv_aload_n hx hb d_M_gather_59 rfl (lv_at hl 0 rfl) ?_
          refine ygf_31_8 hx hb hown hE hW (lk_M_73 hE) d_M_gather_60 ?_
          refine lv_iload_n hx hb d_M_gather_63 rfl (lv_at hl 1 rfl) ?_
          refine ys_37 hx hb hE hW hP.1 d_M_gather_64 (fun z11 H locs e_z11 hW => ?_)
          have hP := hP.2
          have hP := hP z11 e_z11
          refine lv_aload_n hx hb d_M_gather_65 rfl (lv_at hl 0 rfl) ?_
          refine ygf_31_10 hx hb hown hE hW (lk_M_33 hE) d_M_gather_66 ?_
          refine lv_aload_n hx hb d_M_gather_69 rfl (lv_at hl 0 rfl) ?_
          refine ygf_31_8 hx hb hown hE hW (lk_M_73 hE) d_M_gather_70 ?_
          refine lv_iload_n hx hb d_M_gather_73 rfl (lv_at hl 2 rfl) ?_
          refine ys_38 hx hb hE hW hP.1 d_M_gather_74 (fun z12 H locs e_z12 hW => ?_)
          have hP := hP.2
          have hP := hP z12 e_z12
          refine lv_aload_n hx hb d_M_gather_75 rfl (lv_at hl 0 rfl) ?_
          refine lv_dup hx hb d_M_gather_76 rfl ?_
          refine ygf_31_8 hx hb hown hE hW (lk_M_73 hE) d_M_gather_77 ?_
          refine lv_iconst (v := 1) hx hb d_M_gather_80 (by decide) ?_
          refine lv_iadd hx hb d_M_gather_81 ?_
          refine ypf_31_8 hx hb hown hE hW (lk_M_73 hE) d_M_gather_82 (fun z13 H locs e_z13 hW => ?_)
          have hP := hP z13 e_z13
          obtain ⟨x14, e_x14⟩ : ∃ z : Int32, z = x8 + 1 := ⟨_, rfl⟩
          have hP := hP x14 e_x14
          refine lv_iinc (k := 1) (lv' := [(1, .int x14), (0, .ref (ha G 31)), (2, .int x9)]) hx hb d_M_gather_85 hl rfl (ii_p1 e_x14) (by decide) rfl (fun ls hl => ?_)
          refine lv_goto (tgt := 7) hx hb d_M_gather_88 rfl ?_
          exact ih _ _ _ _ _ hP (lv_sub hl [1, 0] rfl) hW
        · have hP := hP.2 hc
          refine lv_goto (tgt := 85) hx hb d_M_gather_52 rfl ?_
          obtain ⟨x15, e_x15⟩ : ∃ z : Int32, z = x8 + 1 := ⟨_, rfl⟩
          have hP := hP x15 e_x15
          refine lv_iinc (k := 1) (lv' := [(1, .int x15), (0, .ref (ha G 31)), (2, .int x9)]) hx hb d_M_gather_85 hl rfl (ii_p1 e_x15) (by decide) rfl (fun ls hl => ?_)
          refine lv_goto (tgt := 7) hx hb d_M_gather_88 rfl ?_
          exact ih _ _ _ _ _ hP (lv_sub hl [1, 0] rfl) hW
set_option maxHeartbeats 4000000 in
set_option maxRecDepth 100000 in
theorem c_M_gather {l : Launch} {G : GG} (z0 : St) (Q : St → Prop) (hP : P_M_gather z0 Q) : Ctv l y_M_gather cc_M_gather 4 none rm_M_gather G [.ref (ha G 31)] z0 Q := by
  refine Ctv.op (own := R_M) (by decide) rfl (Nat.le_of_ble_eq_true rfl) (fun p e s m args below meth c ls E hl hW => ?_)
  obtain ⟨hx, hb, hml, hown, hr, hlk, hex, hE⟩ := id E
  have hl : lv_has ls 4 [(0, .ref (ha G 31))] := hl
  refine lv_aload_n hx hb d_M_gather_0 rfl (lv_at hl 0 rfl) ?_
  refine lv_iconst (v := 0) hx hb d_M_gather_1 (by decide) ?_
  refine ypf_31_8 hx hb hown hE hW (lk_M_73 hE) d_M_gather_2 (fun z1 H locs e_z1 hW => ?_)
  have hP := hP z1 e_z1
  refine lv_iconst (v := 0) hx hb d_M_gather_5 (by decide) ?_
  refine lv_istore_n (lv' := [(1, .int (0 : Int32)), (0, .ref (ha G 31))]) hx hb d_M_gather_6 rfl hl (by decide) rfl (fun ls hl => ?_)
  obtain ⟨n2, hP⟩ := hP
  refine wL_M_gather_7 E n2 _ _ _ _ _ hP (lv_sub hl [1, 0] rfl) hW
theorem d_M_changed_0 : decode cc_M_changed 0 = .ok (.aload_n 0, 1) := by decide +kernel
theorem d_M_changed_1 : decode cc_M_changed 1 = .ok (.iconst 0, 1) := by decide +kernel
theorem d_M_changed_2 : decode cc_M_changed 2 = .ok (.putfield 83, 3) := by decide +kernel
theorem d_M_changed_5 : decode cc_M_changed 5 = .ok (.aload_n 0, 1) := by decide +kernel
theorem d_M_changed_6 : decode cc_M_changed 6 = .ok (.iconst 0, 1) := by decide +kernel
theorem d_M_changed_7 : decode cc_M_changed 7 = .ok (.putfield 87, 3) := by decide +kernel
theorem d_M_changed_10 : decode cc_M_changed 10 = .ok (.aload_n 0, 1) := by decide +kernel
theorem d_M_changed_11 : decode cc_M_changed 11 = .ok (.iconst 0, 1) := by decide +kernel
theorem d_M_changed_12 : decode cc_M_changed 12 = .ok (.putfield 90, 3) := by decide +kernel
theorem d_M_changed_15 : decode cc_M_changed 15 = .ok (.aload_n 0, 1) := by decide +kernel
theorem d_M_changed_16 : decode cc_M_changed 16 = .ok (.invokevirtual 93, 3) := by decide +kernel
theorem d_M_changed_19 : decode cc_M_changed 19 = .ok (.return_, 1) := by decide +kernel
def P_M_changed (z0 : St) (Q : St → Prop) : Prop := ∀ z1 : St, z1 = wI z0 31 11 (0 : Int32) → ∀ z2 : St, z2 = wI z1 31 23 (0 : Int32) → ∀ z3 : St, z3 = wI z2 31 29 (0 : Int32) → P_M_gather z3 (fun (z4 : St) => Q z4)
set_option maxHeartbeats 4000000 in
set_option maxRecDepth 100000 in
theorem c_M_changed {l : Launch} {G : GG} (z0 : St) (Q : St → Prop) (hP : P_M_changed z0 Q) : Ctv l y_M_changed cc_M_changed 1 none rm_M_changed G [.ref (ha G 31)] z0 Q := by
  refine Ctv.op (own := R_M) (by decide) rfl (Nat.le_of_ble_eq_true rfl) (fun p e s m args below meth c ls E hl hW => ?_)
  obtain ⟨hx, hb, hml, hown, hr, hlk, hex, hE⟩ := id E
  have hl : lv_has ls 1 [(0, .ref (ha G 31))] := hl
  refine lv_aload_n hx hb d_M_changed_0 rfl (lv_at hl 0 rfl) ?_
  refine lv_iconst (v := 0) hx hb d_M_changed_1 (by decide) ?_
  refine ypf_31_11 hx hb hown hE hW zb_0 (lk_M_83 hE) d_M_changed_2 (fun z1 H locs e_z1 hW => ?_)
  have hP := hP z1 e_z1
  refine lv_aload_n hx hb d_M_changed_5 rfl (lv_at hl 0 rfl) ?_
  refine lv_iconst (v := 0) hx hb d_M_changed_6 (by decide) ?_
  refine ypf_31_23 hx hb hown hE hW (lk_M_87 hE) d_M_changed_7 (fun z2 H locs e_z2 hW => ?_)
  have hP := hP z2 e_z2
  refine lv_aload_n hx hb d_M_changed_10 rfl (lv_at hl 0 rfl) ?_
  refine lv_iconst (v := 0) hx hb d_M_changed_11 (by decide) ?_
  refine ypf_31_29 hx hb hown hE hW zb_0 (lk_M_90 hE) d_M_changed_12 (fun z3 H locs e_z3 hW => ?_)
  have hP := hP z3 e_z3
  refine lv_aload_n hx hb d_M_changed_15 rfl (lv_at hl 0 rfl) ?_
  refine yc_v (yV (As := []) (rest := []) E (c_M_gather _ _ hP) (cw_M_93 hE) (yrv_31 hE hW) (by decide) hW hl.1 rfl rfl rfl d_M_changed_16) hW (fun z4 H locs hP hW => ?_)
  exact yr_v hx hb hr hlk hW hP d_M_changed_19
theorem d_M_trait_0 : decode cc_M_trait 0 = .ok (.iload_n 1, 1) := by decide +kernel
theorem d_M_trait_1 : decode cc_M_trait 1 = .ok (.invokestatic 96, 3) := by decide +kernel
theorem d_M_trait_4 : decode cc_M_trait 4 = .ok (.ifCond .eq 13, 3) := by decide +kernel
theorem d_M_trait_7 : decode cc_M_trait 7 = .ok (.iload_n 2, 1) := by decide +kernel
theorem d_M_trait_8 : decode cc_M_trait 8 = .ok (.iconst 1, 1) := by decide +kernel
theorem d_M_trait_9 : decode cc_M_trait 9 = .ok (.if_icmp .lt 8, 3) := by decide +kernel
theorem d_M_trait_12 : decode cc_M_trait 12 = .ok (.iload_n 2, 1) := by decide +kernel
theorem d_M_trait_13 : decode cc_M_trait 13 = .ok (.iconst 4, 1) := by decide +kernel
theorem d_M_trait_14 : decode cc_M_trait 14 = .ok (.if_icmp .le 7, 3) := by decide +kernel
theorem d_M_trait_17 : decode cc_M_trait 17 = .ok (.iconst 1, 1) := by decide +kernel
theorem d_M_trait_18 : decode cc_M_trait 18 = .ok (.goto 4, 3) := by decide +kernel
theorem d_M_trait_21 : decode cc_M_trait 21 = .ok (.iconst 0, 1) := by decide +kernel
theorem d_M_trait_22 : decode cc_M_trait 22 = .ok (.istore_n 3, 1) := by decide +kernel
theorem d_M_trait_23 : decode cc_M_trait 23 = .ok (.iconst 0, 1) := by decide +kernel
theorem d_M_trait_24 : decode cc_M_trait 24 = .ok (.istore 4, 2) := by decide +kernel
theorem d_M_trait_26 : decode cc_M_trait 26 = .ok (.iload 4, 2) := by decide +kernel
theorem d_M_trait_28 : decode cc_M_trait 28 = .ok (.aload_n 0, 1) := by decide +kernel
theorem d_M_trait_29 : decode cc_M_trait 29 = .ok (.getfield 76, 3) := by decide +kernel
theorem d_M_trait_32 : decode cc_M_trait 32 = .ok (.if_icmp .ge 34, 3) := by decide +kernel
theorem d_M_trait_35 : decode cc_M_trait 35 = .ok (.iload_n 3, 1) := by decide +kernel
theorem d_M_trait_36 : decode cc_M_trait 36 = .ok (.ifCond .ne 30, 3) := by decide +kernel
theorem d_M_trait_39 : decode cc_M_trait 39 = .ok (.aload_n 0, 1) := by decide +kernel
theorem d_M_trait_40 : decode cc_M_trait 40 = .ok (.getfield 7, 3) := by decide +kernel
theorem d_M_trait_43 : decode cc_M_trait 43 = .ok (.iconst 3, 1) := by decide +kernel
theorem d_M_trait_44 : decode cc_M_trait 44 = .ok (.iload 4, 2) := by decide +kernel
theorem d_M_trait_46 : decode cc_M_trait 46 = .ok (.imul, 1) := by decide +kernel
theorem d_M_trait_47 : decode cc_M_trait 47 = .ok (.iload_n 1, 1) := by decide +kernel
theorem d_M_trait_48 : decode cc_M_trait 48 = .ok (.iadd, 1) := by decide +kernel
theorem d_M_trait_49 : decode cc_M_trait 49 = .ok (.iaload, 1) := by decide +kernel
theorem d_M_trait_50 : decode cc_M_trait 50 = .ok (.iload_n 2, 1) := by decide +kernel
theorem d_M_trait_51 : decode cc_M_trait 51 = .ok (.if_icmp .lt 7, 3) := by decide +kernel
theorem d_M_trait_54 : decode cc_M_trait 54 = .ok (.iconst 1, 1) := by decide +kernel
theorem d_M_trait_55 : decode cc_M_trait 55 = .ok (.goto 4, 3) := by decide +kernel
theorem d_M_trait_58 : decode cc_M_trait 58 = .ok (.iconst 0, 1) := by decide +kernel
theorem d_M_trait_59 : decode cc_M_trait 59 = .ok (.istore_n 3, 1) := by decide +kernel
theorem d_M_trait_60 : decode cc_M_trait 60 = .ok (.iinc 4 1, 3) := by decide +kernel
theorem d_M_trait_63 : decode cc_M_trait 63 = .ok (.goto (-37), 3) := by decide +kernel
theorem d_M_trait_66 : decode cc_M_trait 66 = .ok (.aload_n 0, 1) := by decide +kernel
theorem d_M_trait_67 : decode cc_M_trait 67 = .ok (.iload_n 3, 1) := by decide +kernel
theorem d_M_trait_68 : decode cc_M_trait 68 = .ok (.ifCond .eq 7, 3) := by decide +kernel
theorem d_M_trait_71 : decode cc_M_trait 71 = .ok (.iconst 1, 1) := by decide +kernel
theorem d_M_trait_72 : decode cc_M_trait 72 = .ok (.goto 15, 3) := by decide +kernel
theorem d_M_trait_75 : decode cc_M_trait 75 = .ok (.aload_n 0, 1) := by decide +kernel
theorem d_M_trait_76 : decode cc_M_trait 76 = .ok (.getfield 100, 3) := by decide +kernel
theorem d_M_trait_79 : decode cc_M_trait 79 = .ok (.ifCond .eq 7, 3) := by decide +kernel
theorem d_M_trait_82 : decode cc_M_trait 82 = .ok (.iconst 2, 1) := by decide +kernel
theorem d_M_trait_83 : decode cc_M_trait 83 = .ok (.goto 4, 3) := by decide +kernel
theorem d_M_trait_86 : decode cc_M_trait 86 = .ok (.iconst 0, 1) := by decide +kernel
theorem d_M_trait_87 : decode cc_M_trait 87 = .ok (.putfield 70, 3) := by decide +kernel
theorem d_M_trait_90 : decode cc_M_trait 90 = .ok (.aload_n 0, 1) := by decide +kernel
theorem d_M_trait_91 : decode cc_M_trait 91 = .ok (.getfield 70, 3) := by decide +kernel
theorem d_M_trait_94 : decode cc_M_trait 94 = .ok (.ifCond .le 4, 3) := by decide +kernel
theorem d_M_trait_97 : decode cc_M_trait 97 = .ok (.return_, 1) := by decide +kernel
theorem d_M_trait_98 : decode cc_M_trait 98 = .ok (.aload_n 0, 1) := by decide +kernel
theorem d_M_trait_99 : decode cc_M_trait 99 = .ok (.getfield 17, 3) := by decide +kernel
theorem d_M_trait_102 : decode cc_M_trait 102 = .ok (.iload_n 1, 1) := by decide +kernel
theorem d_M_trait_103 : decode cc_M_trait 103 = .ok (.iload_n 2, 1) := by decide +kernel
theorem d_M_trait_104 : decode cc_M_trait 104 = .ok (.iastore, 1) := by decide +kernel
theorem d_M_trait_105 : decode cc_M_trait 105 = .ok (.aload_n 0, 1) := by decide +kernel
theorem d_M_trait_106 : decode cc_M_trait 106 = .ok (.invokevirtual 103, 3) := by decide +kernel
theorem d_M_trait_109 : decode cc_M_trait 109 = .ok (.return_, 1) := by decide +kernel
def L_M_trait_26 (K66 : Int32 → Int32 → Int32 → St → Prop) (Q : St → Prop) : Nat → Int32 → Int32 → Int32 → Int32 → St → Prop
  | 0, _, _, _, _, _ => False
  | n + 1, v1, v2, v3, v4, z0 => (((z0.1 31 1) ≤ v4) → K66 v1 v2 v3 z0) ∧ ((¬ (z0.1 31 1) ≤ v4) → ((¬ v3 = 0) → K66 v1 v2 v3 z0) ∧ ((v3 = 0) → vp_in (((3 : Int32) * v4) + v1) 120 ∧ (((z0.1 32 (((3 : Int32) * v4) + v1).toNatClampNeg) < v2) → ∀ x3 : Int32, x3 = v4 + 1 → L_M_trait_26 K66 Q n v1 v2 (0 : Int32) x3 z0) ∧ ((¬ (z0.1 32 (((3 : Int32) * v4) + v1).toNatClampNeg) < v2) → ∀ x4 : Int32, x4 = v4 + 1 → L_M_trait_26 K66 Q n v1 v2 (1 : Int32) x4 z0)))
def J_M_trait_87 (Q : St → Prop) (v1 : Int32) (v2 : Int32) (t0 : Int32) (z0 : St) : Prop := ∀ z9 : St, z9 = wI z0 31 0 t0 → (((z9.1 31 0) ≤ 0) → vp_in v1 3 ∧ ∀ z10 : St, z10 = wI z9 34 v1.toNatClampNeg v2 → P_M_changed z10 (fun (z11 : St) => Q z11)) ∧ ((¬ (z9.1 31 0) ≤ 0) → Q z9)
def J_M_trait_66 (Q : St → Prop) (v1 : Int32) (v2 : Int32) (v3 : Int32) (z0 : St) : Prop := ((v3 = 0) → (((z0.1 31 19) = 0) → J_M_trait_87 Q v1 v2 (0 : Int32) z0) ∧ ((¬ (z0.1 31 19) = 0) → J_M_trait_87 Q v1 v2 (2 : Int32) z0)) ∧ ((¬ v3 = 0) → J_M_trait_87 Q v1 v2 (1 : Int32) z0)
def J_M_trait_17 (Q : St → Prop) (v1 : Int32) (v2 : Int32) (z0 : St) : Prop := ∃ k26 : Nat, L_M_trait_26 (fun (x5 : Int32) (x6 : Int32) (x7 : Int32) (z8 : St) => J_M_trait_66 Q x5 x6 x7 z8) Q k26 v1 v2 (1 : Int32) (0 : Int32) z0
def P_M_trait (a1 : Int32) (a2 : Int32) (z0 : St) (Q : St → Prop) : Prop := P_M_isTrait a1 z0 (fun (x2 : Int32) (z1 : St) => ((x2 = 0) → J_M_trait_17 Q a1 a2 z1) ∧ ((¬ x2 = 0) → ((a2 < (1 : Int32)) → J_M_trait_17 Q a1 a2 z1) ∧ ((¬ a2 < (1 : Int32)) → ((a2 ≤ (4 : Int32)) → ∃ k26 : Nat, L_M_trait_26 (fun (x12 : Int32) (x13 : Int32) (x14 : Int32) (z15 : St) => J_M_trait_66 Q x12 x13 x14 z15) Q k26 a1 a2 (0 : Int32) (0 : Int32) z1) ∧ ((¬ a2 ≤ (4 : Int32)) → J_M_trait_17 Q a1 a2 z1))))
set_option maxHeartbeats 4000000 in
set_option maxRecDepth 100000 in
theorem wL_M_trait_26 {K66 : Int32 → Int32 → Int32 → St → Prop} {Q : St → Prop} (E : En p l s m meth c args cc_M_trait 5 R_M none G)
    (hK66 : ∀ (v1 : Int32) (v2 : Int32) (v3 : Int32) (z0 : St) (ls : Array Slot) (H : Heap) (locs : List Loc), K66 v1 v2 v3 z0 → lv_has ls 5 [(0, .ref (ha G 31)), (1, .int v1), (2, .int v2), (3, .int v3)] → Wd G z0 s.heap H locs → W p l e rm_M_trait s m args below meth c H locs 0 0 (MQ below (QvR Q G) args s 0 0 (fr G)) (F0 m 66 ls [])) :
    ∀ (n : Nat) (v1 : Int32) (v2 : Int32) (v3 : Int32) (v4 : Int32) (z0 : St) (ls : Array Slot) (H : Heap) (locs : List Loc), L_M_trait_26 K66 Q n v1 v2 v3 v4 z0 → lv_has ls 5 [(0, .ref (ha G 31)), (1, .int v1), (2, .int v2), (3, .int v3), (4, .int v4)] → Wd G z0 s.heap H locs → W p l e rm_M_trait s m args below meth c H locs 0 0 (MQ below (QvR Q G) args s 0 0 (fr G)) (F0 m 26 ls []) := by
  obtain ⟨hx, hb, hml, hown, hr, hlk, hex, hE⟩ := id E
  intro n
  induction n with
  | zero => exact fun _ _ _ _ _ _ _ _ hP _ _ => hP.elim
  | succ n ih =>
    intro v1 v2 v3 v4 z0 ls H locs hP hl hW
    refine lv_iload hx hb d_M_trait_26 (lv_at hl 4 rfl) ?_
    refine lv_aload_n hx hb d_M_trait_28 rfl (lv_at hl 0 rfl) ?_
    refine ygf_31_1 hx hb hown hE hW (lk_M_76 hE) d_M_trait_29 ?_
    refine lv_icmp_ge (tgt := 66) hx hb d_M_trait_32 rfl (fun hc => ?_) (fun hc => ?_)
    · have hP := hP.1 hc
      exact hK66 _ _ _ _ _ _ _ hP (lv_sub hl [0, 1, 2, 3] rfl) hW
    · have hP := hP.2 hc
      refine lv_iload_n hx hb d_M_trait_35 rfl (lv_at hl 3 rfl) ?_
      refine lv_if_ne (tgt := 66) hx hb d_M_trait_36 rfl (fun hc => ?_) (fun hc => ?_)
      · have hP := hP.1 hc
        exact hK66 _ _ _ _ _ _ _ hP (lv_sub hl [0, 1, 2, 3] rfl) hW
      · have hP := hP.2 hc
        refine lv_aload_n hx hb d_M_trait_39 rfl (lv_at hl 0 rfl) ?_
        refine ygf_31_2 hx hb hown hE hW (lk_M_7 hE) d_M_trait_40 ?_
        refine lv_iconst (v := 3) hx hb d_M_trait_43 (by decide) ?_
        refine lv_iload hx hb d_M_trait_44 (lv_at hl 4 rfl) ?_
        refine lv_imul hx hb d_M_trait_46 ?_
        refine lv_iload_n hx hb d_M_trait_47 rfl (lv_at hl 1 rfl) ?_
        refine lv_iadd hx hb d_M_trait_48 ?_
        refine ya_32 hx hb hE hW hP.1 d_M_trait_49 ?_
        have hP := hP.2
        refine lv_iload_n hx hb d_M_trait_50 rfl (lv_at hl 2 rfl) ?_
        refine lv_icmp_lt (tgt := 58) hx hb d_M_trait_51 rfl (fun hc => ?_) (fun hc => ?_)
        · have hP := hP.1 hc
          refine lv_iconst (v := 0) hx hb d_M_trait_58 (by decide) ?_
          refine lv_istore_n (lv' := [(3, .int (0 : Int32)), (0, .ref (ha G 31)), (1, .int v1), (2, .int v2), (4, .int v4)]) hx hb d_M_trait_59 rfl hl (by decide) rfl (fun ls hl => ?_)
          obtain ⟨x3, e_x3⟩ : ∃ z : Int32, z = v4 + 1 := ⟨_, rfl⟩
          have hP := hP x3 e_x3
          refine lv_iinc (k := 4) (lv' := [(4, .int x3), (3, .int (0 : Int32)), (0, .ref (ha G 31)), (1, .int v1), (2, .int v2)]) hx hb d_M_trait_60 hl rfl (ii_p1 e_x3) (by decide) rfl (fun ls hl => ?_)
          refine lv_goto (tgt := 26) hx hb d_M_trait_63 rfl ?_
          exact ih _ _ _ _ _ _ _ _ hP (lv_sub hl [2, 3, 4, 1, 0] rfl) hW
        · have hP := hP.2 hc
          refine lv_iconst (v := 1) hx hb d_M_trait_54 (by decide) ?_
          refine lv_goto (tgt := 59) hx hb d_M_trait_55 rfl ?_
          refine lv_istore_n (lv' := [(3, .int (1 : Int32)), (0, .ref (ha G 31)), (1, .int v1), (2, .int v2), (4, .int v4)]) hx hb d_M_trait_59 rfl hl (by decide) rfl (fun ls hl => ?_)
          obtain ⟨x4, e_x4⟩ : ∃ z : Int32, z = v4 + 1 := ⟨_, rfl⟩
          have hP := hP x4 e_x4
          refine lv_iinc (k := 4) (lv' := [(4, .int x4), (3, .int (1 : Int32)), (0, .ref (ha G 31)), (1, .int v1), (2, .int v2)]) hx hb d_M_trait_60 hl rfl (ii_p1 e_x4) (by decide) rfl (fun ls hl => ?_)
          refine lv_goto (tgt := 26) hx hb d_M_trait_63 rfl ?_
          exact ih _ _ _ _ _ _ _ _ hP (lv_sub hl [2, 3, 4, 1, 0] rfl) hW
set_option maxHeartbeats 4000000 in
set_option maxRecDepth 100000 in
theorem wJ_M_trait_87 {Q : St → Prop} (E : En p l s m meth c args cc_M_trait 5 R_M none G)
    (v1 : Int32) (v2 : Int32) (t0 : Int32) (z0 : St) (ls : Array Slot) (H : Heap) (locs : List Loc) (hP : J_M_trait_87 Q v1 v2 t0 z0) (hl : lv_has ls 5 [(0, .ref (ha G 31)), (1, .int v1), (2, .int v2)]) (hW : Wd G z0 s.heap H locs) : W p l e rm_M_trait s m args below meth c H locs 0 0 (MQ below (QvR Q G) args s 0 0 (fr G)) (F0 m 87 ls [.int t0, .ref (ha G 31)]) := by
  obtain ⟨hx, hb, hml, hown, hr, hlk, hex, hE⟩ := id E
  refine ypf_31_0 hx hb hown hE hW (lk_M_70 hE) d_M_trait_87 (fun z9 H locs e_z9 hW => ?_)
  have hP := hP z9 e_z9
  refine lv_aload_n hx hb d_M_trait_90 rfl (lv_at hl 0 rfl) ?_
  refine ygf_31_0 hx hb hown hE hW (lk_M_70 hE) d_M_trait_91 ?_
  refine lv_if_le (tgt := 98) hx hb d_M_trait_94 rfl (fun hc => ?_) (fun hc => ?_)
  · have hP := hP.1 hc
    refine lv_aload_n hx hb d_M_trait_98 rfl (lv_at hl 0 rfl) ?_
    refine ygf_31_4 hx hb hown hE hW (lk_M_17 hE) d_M_trait_99 ?_
    refine lv_iload_n hx hb d_M_trait_102 rfl (lv_at hl 1 rfl) ?_
    refine lv_iload_n hx hb d_M_trait_103 rfl (lv_at hl 2 rfl) ?_
    refine ys_34 hx hb hE hW hP.1 d_M_trait_104 (fun z10 H locs e_z10 hW => ?_)
    have hP := hP.2
    have hP := hP z10 e_z10
    refine lv_aload_n hx hb d_M_trait_105 rfl (lv_at hl 0 rfl) ?_
    refine yc_v (yV (As := []) (rest := []) E (c_M_changed _ _ hP) (cw_M_103 hE) (yrv_31 hE hW) (by decide) hW hl.1 rfl rfl rfl d_M_trait_106) hW (fun z11 H locs hP hW => ?_)
    exact yr_v hx hb hr hlk hW hP d_M_trait_109
  · have hP := hP.2 hc
    exact yr_v hx hb hr hlk hW hP d_M_trait_97
set_option maxHeartbeats 4000000 in
set_option maxRecDepth 100000 in
theorem wJ_M_trait_66 {Q : St → Prop} (E : En p l s m meth c args cc_M_trait 5 R_M none G)
    (v1 : Int32) (v2 : Int32) (v3 : Int32) (z0 : St) (ls : Array Slot) (H : Heap) (locs : List Loc) (hP : J_M_trait_66 Q v1 v2 v3 z0) (hl : lv_has ls 5 [(0, .ref (ha G 31)), (1, .int v1), (2, .int v2), (3, .int v3)]) (hW : Wd G z0 s.heap H locs) : W p l e rm_M_trait s m args below meth c H locs 0 0 (MQ below (QvR Q G) args s 0 0 (fr G)) (F0 m 66 ls []) := by
  obtain ⟨hx, hb, hml, hown, hr, hlk, hex, hE⟩ := id E
  refine lv_aload_n hx hb d_M_trait_66 rfl (lv_at hl 0 rfl) ?_
  refine lv_iload_n hx hb d_M_trait_67 rfl (lv_at hl 3 rfl) ?_
  refine lv_if_eq (tgt := 75) hx hb d_M_trait_68 rfl (fun hc => ?_) (fun hc => ?_)
  · have hP := hP.1 hc
    refine lv_aload_n hx hb d_M_trait_75 rfl (lv_at hl 0 rfl) ?_
    refine ygf_31_19 hx hb hown hE hW (lk_M_100 hE) d_M_trait_76 ?_
    refine lv_if_eq (tgt := 86) hx hb d_M_trait_79 rfl (fun hc => ?_) (fun hc => ?_)
    · have hP := hP.1 hc
      refine lv_iconst (v := 0) hx hb d_M_trait_86 (by decide) ?_
      exact wJ_M_trait_87 E _ _ _ _ _ _ _ hP (lv_sub hl [0, 1, 2] rfl) hW
    · have hP := hP.2 hc
      refine lv_iconst (v := 2) hx hb d_M_trait_82 (by decide) ?_
      refine lv_goto (tgt := 87) hx hb d_M_trait_83 rfl ?_
      exact wJ_M_trait_87 E _ _ _ _ _ _ _ hP (lv_sub hl [0, 1, 2] rfl) hW
  · have hP := hP.2 hc
    refine lv_iconst (v := 1) hx hb d_M_trait_71 (by decide) ?_
    refine lv_goto (tgt := 87) hx hb d_M_trait_72 rfl ?_
    exact wJ_M_trait_87 E _ _ _ _ _ _ _ hP (lv_sub hl [0, 1, 2] rfl) hW
set_option maxHeartbeats 4000000 in
set_option maxRecDepth 100000 in
theorem wJ_M_trait_17 {Q : St → Prop} (E : En p l s m meth c args cc_M_trait 5 R_M none G)
    (v1 : Int32) (v2 : Int32) (z0 : St) (ls : Array Slot) (H : Heap) (locs : List Loc) (hP : J_M_trait_17 Q v1 v2 z0) (hl : lv_has ls 5 [(0, .ref (ha G 31)), (1, .int v1), (2, .int v2)]) (hW : Wd G z0 s.heap H locs) : W p l e rm_M_trait s m args below meth c H locs 0 0 (MQ below (QvR Q G) args s 0 0 (fr G)) (F0 m 17 ls []) := by
  obtain ⟨hx, hb, hml, hown, hr, hlk, hex, hE⟩ := id E
  refine lv_iconst (v := 1) hx hb d_M_trait_17 (by decide) ?_
  refine lv_goto (tgt := 22) hx hb d_M_trait_18 rfl ?_
  refine lv_istore_n (lv' := [(3, .int (1 : Int32)), (0, .ref (ha G 31)), (1, .int v1), (2, .int v2)]) hx hb d_M_trait_22 rfl hl (by decide) rfl (fun ls hl => ?_)
  refine lv_iconst (v := 0) hx hb d_M_trait_23 (by decide) ?_
  refine lv_istore (lv' := [(4, .int (0 : Int32)), (3, .int (1 : Int32)), (0, .ref (ha G 31)), (1, .int v1), (2, .int v2)]) hx hb d_M_trait_24 hl (by decide) rfl (fun ls hl => ?_)
  obtain ⟨n2, hP⟩ := hP
  refine wL_M_trait_26 E ?_ n2 _ _ _ _ _ _ _ _ hP (lv_sub hl [2, 3, 4, 1, 0] rfl) hW
  · intro x5 x6 x7 z8 ls H locs hP hl hW
    exact wJ_M_trait_66 E _ _ _ _ _ _ _ hP hl hW
set_option maxHeartbeats 4000000 in
set_option maxRecDepth 100000 in
theorem c_M_trait {l : Launch} {G : GG} (a1 : Int32) (a2 : Int32) (z0 : St) (Q : St → Prop) (hP : P_M_trait a1 a2 z0 Q) : Ctv l y_M_trait cc_M_trait 5 none rm_M_trait G [.ref (ha G 31), .int a1, .int a2] z0 Q := by
  refine Ctv.op (own := R_M) (by decide) rfl (Nat.le_of_ble_eq_true rfl) (fun p e s m args below meth c ls E hl hW => ?_)
  obtain ⟨hx, hb, hml, hown, hr, hlk, hex, hE⟩ := id E
  have hl : lv_has ls 5 [(0, .ref (ha G 31)), (1, .int a1), (2, .int a2)] := hl
  refine lv_iload_n hx hb d_M_trait_0 rfl (lv_at hl 1 rfl) ?_
  refine yc_i (yS (As := [.int a1]) (rest := []) E (c_M_isTrait _ _ _ hP) (cw_M_96 hE) (by decide) hW hl.1 rfl rfl rfl d_M_trait_1) hW (fun x2 z1 H locs hP hW => ?_)
  refine lv_if_eq (tgt := 17) hx hb d_M_trait_4 rfl (fun hc => ?_) (fun hc => ?_)
  · have hP := hP.1 hc
    exact wJ_M_trait_17 E _ _ _ _ _ _ hP hl hW
  · have hP := hP.2 hc
    refine lv_iload_n hx hb d_M_trait_7 rfl (lv_at hl 2 rfl) ?_
    refine lv_iconst (v := 1) hx hb d_M_trait_8 (by decide) ?_
    refine lv_icmp_lt (tgt := 17) hx hb d_M_trait_9 rfl (fun hc => ?_) (fun hc => ?_)
    · have hP := hP.1 hc
      exact wJ_M_trait_17 E _ _ _ _ _ _ hP hl hW
    · have hP := hP.2 hc
      refine lv_iload_n hx hb d_M_trait_12 rfl (lv_at hl 2 rfl) ?_
      refine lv_iconst (v := 4) hx hb d_M_trait_13 (by decide) ?_
      refine lv_icmp_le (tgt := 21) hx hb d_M_trait_14 rfl (fun hc => ?_) (fun hc => ?_)
      · have hP := hP.1 hc
        refine lv_iconst (v := 0) hx hb d_M_trait_21 (by decide) ?_
        refine lv_istore_n (lv' := [(3, .int (0 : Int32)), (0, .ref (ha G 31)), (1, .int a1), (2, .int a2)]) hx hb d_M_trait_22 rfl hl (by decide) rfl (fun ls hl => ?_)
        refine lv_iconst (v := 0) hx hb d_M_trait_23 (by decide) ?_
        refine lv_istore (lv' := [(4, .int (0 : Int32)), (3, .int (0 : Int32)), (0, .ref (ha G 31)), (1, .int a1), (2, .int a2)]) hx hb d_M_trait_24 hl (by decide) rfl (fun ls hl => ?_)
        obtain ⟨n2, hP⟩ := hP
        refine wL_M_trait_26 E ?_ n2 _ _ _ _ _ _ _ _ hP (lv_sub hl [2, 3, 4, 1, 0] rfl) hW
        · intro x12 x13 x14 z15 ls H locs hP hl hW
          exact wJ_M_trait_66 E _ _ _ _ _ _ _ hP hl hW
      · have hP := hP.2 hc
        exact wJ_M_trait_17 E _ _ _ _ _ _ hP hl hW
theorem d_M_person_0 : decode cc_M_person 0 = .ok (.iload_n 1, 1) := by decide +kernel
theorem d_M_person_1 : decode cc_M_person 1 = .ok (.ifCond .lt 41, 3) := by decide +kernel
theorem d_M_person_4 : decode cc_M_person 4 = .ok (.iload_n 1, 1) := by decide +kernel
theorem d_M_person_5 : decode cc_M_person 5 = .ok (.aload_n 0, 1) := by decide +kernel
theorem d_M_person_6 : decode cc_M_person 6 = .ok (.getfield 17, 3) := by decide +kernel
theorem d_M_person_9 : decode cc_M_person 9 = .ok (.iconst 0, 1) := by decide +kernel
theorem d_M_person_10 : decode cc_M_person 10 = .ok (.iaload, 1) := by decide +kernel
theorem d_M_person_11 : decode cc_M_person 11 = .ok (.if_icmp .ge 31, 3) := by decide +kernel
theorem d_M_person_14 : decode cc_M_person 14 = .ok (.iload_n 2, 1) := by decide +kernel
theorem d_M_person_15 : decode cc_M_person 15 = .ok (.ifCond .lt 27, 3) := by decide +kernel
theorem d_M_person_18 : decode cc_M_person 18 = .ok (.iload_n 2, 1) := by decide +kernel
theorem d_M_person_19 : decode cc_M_person 19 = .ok (.aload_n 0, 1) := by decide +kernel
theorem d_M_person_20 : decode cc_M_person 20 = .ok (.getfield 17, 3) := by decide +kernel
theorem d_M_person_23 : decode cc_M_person 23 = .ok (.iconst 1, 1) := by decide +kernel
theorem d_M_person_24 : decode cc_M_person 24 = .ok (.iaload, 1) := by decide +kernel
theorem d_M_person_25 : decode cc_M_person 25 = .ok (.if_icmp .ge 17, 3) := by decide +kernel
theorem d_M_person_28 : decode cc_M_person 28 = .ok (.iload_n 3, 1) := by decide +kernel
theorem d_M_person_29 : decode cc_M_person 29 = .ok (.ifCond .lt 13, 3) := by decide +kernel
theorem d_M_person_32 : decode cc_M_person 32 = .ok (.iload_n 3, 1) := by decide +kernel
theorem d_M_person_33 : decode cc_M_person 33 = .ok (.aload_n 0, 1) := by decide +kernel
theorem d_M_person_34 : decode cc_M_person 34 = .ok (.getfield 17, 3) := by decide +kernel
theorem d_M_person_37 : decode cc_M_person 37 = .ok (.iconst 2, 1) := by decide +kernel
theorem d_M_person_38 : decode cc_M_person 38 = .ok (.iaload, 1) := by decide +kernel
theorem d_M_person_39 : decode cc_M_person 39 = .ok (.if_icmp .lt 7, 3) := by decide +kernel
theorem d_M_person_42 : decode cc_M_person 42 = .ok (.iconst 1, 1) := by decide +kernel
theorem d_M_person_43 : decode cc_M_person 43 = .ok (.goto 4, 3) := by decide +kernel
theorem d_M_person_46 : decode cc_M_person 46 = .ok (.iconst 0, 1) := by decide +kernel
theorem d_M_person_47 : decode cc_M_person 47 = .ok (.istore 4, 2) := by decide +kernel
theorem d_M_person_49 : decode cc_M_person 49 = .ok (.aload_n 0, 1) := by decide +kernel
theorem d_M_person_50 : decode cc_M_person 50 = .ok (.iload 4, 2) := by decide +kernel
theorem d_M_person_52 : decode cc_M_person 52 = .ok (.ifCond .eq 7, 3) := by decide +kernel
theorem d_M_person_55 : decode cc_M_person 55 = .ok (.iconst 1, 1) := by decide +kernel
theorem d_M_person_56 : decode cc_M_person 56 = .ok (.goto 24, 3) := by decide +kernel
theorem d_M_person_59 : decode cc_M_person 59 = .ok (.aload_n 0, 1) := by decide +kernel
theorem d_M_person_60 : decode cc_M_person 60 = .ok (.getfield 100, 3) := by decide +kernel
theorem d_M_person_63 : decode cc_M_person 63 = .ok (.ifCond .ne 12, 3) := by decide +kernel
theorem d_M_person_66 : decode cc_M_person 66 = .ok (.aload_n 0, 1) := by decide +kernel
theorem d_M_person_67 : decode cc_M_person 67 = .ok (.getfield 76, 3) := by decide +kernel
theorem d_M_person_70 : decode cc_M_person 70 = .ok (.bipush 40, 2) := by decide +kernel
theorem d_M_person_72 : decode cc_M_person 72 = .ok (.if_icmp .ne 7, 3) := by decide +kernel
theorem d_M_person_75 : decode cc_M_person 75 = .ok (.iconst 2, 1) := by decide +kernel
theorem d_M_person_76 : decode cc_M_person 76 = .ok (.goto 4, 3) := by decide +kernel
theorem d_M_person_79 : decode cc_M_person 79 = .ok (.iconst 0, 1) := by decide +kernel
theorem d_M_person_80 : decode cc_M_person 80 = .ok (.putfield 70, 3) := by decide +kernel
theorem d_M_person_83 : decode cc_M_person 83 = .ok (.aload_n 0, 1) := by decide +kernel
theorem d_M_person_84 : decode cc_M_person 84 = .ok (.getfield 70, 3) := by decide +kernel
theorem d_M_person_87 : decode cc_M_person 87 = .ok (.ifCond .le 5, 3) := by decide +kernel
theorem d_M_person_90 : decode cc_M_person 90 = .ok (.iconst 0, 1) := by decide +kernel
theorem d_M_person_91 : decode cc_M_person 91 = .ok (.ireturn, 1) := by decide +kernel
theorem d_M_person_92 : decode cc_M_person 92 = .ok (.aload_n 0, 1) := by decide +kernel
theorem d_M_person_93 : decode cc_M_person 93 = .ok (.getfield 7, 3) := by decide +kernel
theorem d_M_person_96 : decode cc_M_person 96 = .ok (.iconst 3, 1) := by decide +kernel
theorem d_M_person_97 : decode cc_M_person 97 = .ok (.aload_n 0, 1) := by decide +kernel
theorem d_M_person_98 : decode cc_M_person 98 = .ok (.getfield 76, 3) := by decide +kernel
theorem d_M_person_101 : decode cc_M_person 101 = .ok (.imul, 1) := by decide +kernel
theorem d_M_person_102 : decode cc_M_person 102 = .ok (.iload_n 1, 1) := by decide +kernel
theorem d_M_person_103 : decode cc_M_person 103 = .ok (.iastore, 1) := by decide +kernel
theorem d_M_person_104 : decode cc_M_person 104 = .ok (.aload_n 0, 1) := by decide +kernel
theorem d_M_person_105 : decode cc_M_person 105 = .ok (.getfield 7, 3) := by decide +kernel
theorem d_M_person_108 : decode cc_M_person 108 = .ok (.iconst 3, 1) := by decide +kernel
theorem d_M_person_109 : decode cc_M_person 109 = .ok (.aload_n 0, 1) := by decide +kernel
theorem d_M_person_110 : decode cc_M_person 110 = .ok (.getfield 76, 3) := by decide +kernel
theorem d_M_person_113 : decode cc_M_person 113 = .ok (.imul, 1) := by decide +kernel
theorem d_M_person_114 : decode cc_M_person 114 = .ok (.iconst 1, 1) := by decide +kernel
theorem d_M_person_115 : decode cc_M_person 115 = .ok (.iadd, 1) := by decide +kernel
theorem d_M_person_116 : decode cc_M_person 116 = .ok (.iload_n 2, 1) := by decide +kernel
theorem d_M_person_117 : decode cc_M_person 117 = .ok (.iastore, 1) := by decide +kernel
theorem d_M_person_118 : decode cc_M_person 118 = .ok (.aload_n 0, 1) := by decide +kernel
theorem d_M_person_119 : decode cc_M_person 119 = .ok (.getfield 7, 3) := by decide +kernel
theorem d_M_person_122 : decode cc_M_person 122 = .ok (.iconst 3, 1) := by decide +kernel
theorem d_M_person_123 : decode cc_M_person 123 = .ok (.aload_n 0, 1) := by decide +kernel
theorem d_M_person_124 : decode cc_M_person 124 = .ok (.getfield 76, 3) := by decide +kernel
theorem d_M_person_127 : decode cc_M_person 127 = .ok (.imul, 1) := by decide +kernel
theorem d_M_person_128 : decode cc_M_person 128 = .ok (.iconst 2, 1) := by decide +kernel
theorem d_M_person_129 : decode cc_M_person 129 = .ok (.iadd, 1) := by decide +kernel
theorem d_M_person_130 : decode cc_M_person 130 = .ok (.iload_n 3, 1) := by decide +kernel
theorem d_M_person_131 : decode cc_M_person 131 = .ok (.iastore, 1) := by decide +kernel
theorem d_M_person_132 : decode cc_M_person 132 = .ok (.iconst 1, 1) := by decide +kernel
theorem d_M_person_133 : decode cc_M_person 133 = .ok (.istore 5, 2) := by decide +kernel
theorem d_M_person_135 : decode cc_M_person 135 = .ok (.iconst 0, 1) := by decide +kernel
theorem d_M_person_136 : decode cc_M_person 136 = .ok (.istore 6, 2) := by decide +kernel
theorem d_M_person_138 : decode cc_M_person 138 = .ok (.iload 6, 2) := by decide +kernel
theorem d_M_person_140 : decode cc_M_person 140 = .ok (.aload_n 0, 1) := by decide +kernel
theorem d_M_person_141 : decode cc_M_person 141 = .ok (.getfield 73, 3) := by decide +kernel
theorem d_M_person_144 : decode cc_M_person 144 = .ok (.if_icmp .ge 39, 3) := by decide +kernel
theorem d_M_person_147 : decode cc_M_person 147 = .ok (.iload 5, 2) := by decide +kernel
theorem d_M_person_149 : decode cc_M_person 149 = .ok (.ifCond .eq 25, 3) := by decide +kernel
theorem d_M_person_152 : decode cc_M_person 152 = .ok (.aload_n 0, 1) := by decide +kernel
theorem d_M_person_153 : decode cc_M_person 153 = .ok (.getfield 30, 3) := by decide +kernel
theorem d_M_person_156 : decode cc_M_person 156 = .ok (.iload 6, 2) := by decide +kernel
theorem d_M_person_158 : decode cc_M_person 158 = .ok (.iaload, 1) := by decide +kernel
theorem d_M_person_159 : decode cc_M_person 159 = .ok (.aload_n 0, 1) := by decide +kernel
theorem d_M_person_160 : decode cc_M_person 160 = .ok (.aload_n 0, 1) := by decide +kernel
theorem d_M_person_161 : decode cc_M_person 161 = .ok (.getfield 76, 3) := by decide +kernel
theorem d_M_person_164 : decode cc_M_person 164 = .ok (.invokevirtual 79, 3) := by decide +kernel
theorem d_M_person_167 : decode cc_M_person 167 = .ok (.if_icmp .eq 7, 3) := by decide +kernel
theorem d_M_person_170 : decode cc_M_person 170 = .ok (.iconst 1, 1) := by decide +kernel
theorem d_M_person_171 : decode cc_M_person 171 = .ok (.goto 4, 3) := by decide +kernel
theorem d_M_person_174 : decode cc_M_person 174 = .ok (.iconst 0, 1) := by decide +kernel
theorem d_M_person_175 : decode cc_M_person 175 = .ok (.istore 5, 2) := by decide +kernel
theorem d_M_person_177 : decode cc_M_person 177 = .ok (.iinc 6 1, 3) := by decide +kernel
theorem d_M_person_180 : decode cc_M_person 180 = .ok (.goto (-42), 3) := by decide +kernel
theorem d_M_person_183 : decode cc_M_person 183 = .ok (.aload_n 0, 1) := by decide +kernel
theorem d_M_person_184 : decode cc_M_person 184 = .ok (.iload 5, 2) := by decide +kernel
theorem d_M_person_186 : decode cc_M_person 186 = .ok (.ifCond .eq 16, 3) := by decide +kernel
theorem d_M_person_189 : decode cc_M_person 189 = .ok (.aload_n 0, 1) := by decide +kernel
theorem d_M_person_190 : decode cc_M_person 190 = .ok (.getfield 73, 3) := by decide +kernel
theorem d_M_person_193 : decode cc_M_person 193 = .ok (.bipush 16, 2) := by decide +kernel
theorem d_M_person_195 : decode cc_M_person 195 = .ok (.if_icmp .ne 7, 3) := by decide +kernel
theorem d_M_person_198 : decode cc_M_person 198 = .ok (.iconst 2, 1) := by decide +kernel
theorem d_M_person_199 : decode cc_M_person 199 = .ok (.goto 4, 3) := by decide +kernel
theorem d_M_person_202 : decode cc_M_person 202 = .ok (.iconst 0, 1) := by decide +kernel
theorem d_M_person_203 : decode cc_M_person 203 = .ok (.putfield 70, 3) := by decide +kernel
theorem d_M_person_206 : decode cc_M_person 206 = .ok (.aload_n 0, 1) := by decide +kernel
theorem d_M_person_207 : decode cc_M_person 207 = .ok (.getfield 70, 3) := by decide +kernel
theorem d_M_person_210 : decode cc_M_person 210 = .ok (.ifCond .le 5, 3) := by decide +kernel
theorem d_M_person_213 : decode cc_M_person 213 = .ok (.iconst 0, 1) := by decide +kernel
theorem d_M_person_214 : decode cc_M_person 214 = .ok (.ireturn, 1) := by decide +kernel
theorem d_M_person_215 : decode cc_M_person 215 = .ok (.aload_n 0, 1) := by decide +kernel
theorem d_M_person_216 : decode cc_M_person 216 = .ok (.getfield 13, 3) := by decide +kernel
theorem d_M_person_219 : decode cc_M_person 219 = .ok (.aload_n 0, 1) := by decide +kernel
theorem d_M_person_220 : decode cc_M_person 220 = .ok (.getfield 76, 3) := by decide +kernel
theorem d_M_person_223 : decode cc_M_person 223 = .ok (.iconst 0, 1) := by decide +kernel
theorem d_M_person_224 : decode cc_M_person 224 = .ok (.bastore, 1) := by decide +kernel
theorem d_M_person_225 : decode cc_M_person 225 = .ok (.aload_n 0, 1) := by decide +kernel
theorem d_M_person_226 : decode cc_M_person 226 = .ok (.getfield 58, 3) := by decide +kernel
theorem d_M_person_229 : decode cc_M_person 229 = .ok (.aload_n 0, 1) := by decide +kernel
theorem d_M_person_230 : decode cc_M_person 230 = .ok (.getfield 76, 3) := by decide +kernel
theorem d_M_person_233 : decode cc_M_person 233 = .ok (.iconst 0, 1) := by decide +kernel
theorem d_M_person_234 : decode cc_M_person 234 = .ok (.bastore, 1) := by decide +kernel
theorem d_M_person_235 : decode cc_M_person 235 = .ok (.aload_n 0, 1) := by decide +kernel
theorem d_M_person_236 : decode cc_M_person 236 = .ok (.dup, 1) := by decide +kernel
theorem d_M_person_237 : decode cc_M_person 237 = .ok (.getfield 76, 3) := by decide +kernel
theorem d_M_person_240 : decode cc_M_person 240 = .ok (.iconst 1, 1) := by decide +kernel
theorem d_M_person_241 : decode cc_M_person 241 = .ok (.iadd, 1) := by decide +kernel
theorem d_M_person_242 : decode cc_M_person 242 = .ok (.putfield 76, 3) := by decide +kernel
theorem d_M_person_245 : decode cc_M_person 245 = .ok (.aload_n 0, 1) := by decide +kernel
theorem d_M_person_246 : decode cc_M_person 246 = .ok (.invokevirtual 103, 3) := by decide +kernel
theorem d_M_person_249 : decode cc_M_person 249 = .ok (.aload_n 0, 1) := by decide +kernel
theorem d_M_person_250 : decode cc_M_person 250 = .ok (.getfield 76, 3) := by decide +kernel
theorem d_M_person_253 : decode cc_M_person 253 = .ok (.iconst 1, 1) := by decide +kernel
theorem d_M_person_254 : decode cc_M_person 254 = .ok (.isub, 1) := by decide +kernel
theorem d_M_person_255 : decode cc_M_person 255 = .ok (.ireturn, 1) := by decide +kernel
def J_M_person_174 (K138 : Int32 → Int32 → St → Prop) (K183 : Int32 → St → Prop) (Q : Int32 → St → Prop) (v6 : Int32) (z0 : St) : Prop := ∀ x5 : Int32, x5 = v6 + 1 → K138 (0 : Int32) x5 z0
def L_M_person_138 (K183 : Int32 → St → Prop) (Q : Int32 → St → Prop) : Nat → Int32 → Int32 → St → Prop
  | 0, _, _, _ => False
  | n + 1, v5, v6, z0 => (((z0.1 31 8) ≤ v6) → K183 v5 z0) ∧ ((¬ (z0.1 31 8) ≤ v6) → ((v5 = 0) → J_M_person_174 (L_M_person_138 K183 Q n) K183 Q v6 z0) ∧ ((¬ v5 = 0) → vp_in v6 17 ∧ P_M_is (z0.1 31 1) z0 (fun (x7 : Int32) (z6 : St) => (((z0.1 37 v6.toNatClampNeg) = x7) → J_M_person_174 (L_M_person_138 K183 Q n) K183 Q v6 z6) ∧ ((¬ (z0.1 37 v6.toNatClampNeg) = x7) → ∀ x8 : Int32, x8 = v6 + 1 → L_M_person_138 K183 Q n (1 : Int32) x8 z6))))
def J_M_person_203 (Q : Int32 → St → Prop) (t0 : Int32) (z0 : St) : Prop := ∀ z11 : St, z11 = wI z0 31 0 t0 → (((z11.1 31 0) ≤ 0) → vp_in (z11.1 31 1) 40 ∧ ∀ z12 : St, z12 = wI z11 33 (z11.1 31 1).toNatClampNeg (0 : Int32) → vp_in (z12.1 31 1) 40 ∧ ∀ z13 : St, z13 = wI z12 45 (z12.1 31 1).toNatClampNeg (0 : Int32) → ∀ z14 : St, z14 = wI z13 31 1 ((z13.1 31 1) + (1 : Int32)) → P_M_changed z14 (fun (z15 : St) => Q ((z15.1 31 1) - (1 : Int32)) z15)) ∧ ((¬ (z11.1 31 0) ≤ 0) → Q (0 : Int32) z11)
def J_M_person_80 (Q : Int32 → St → Prop) (v1 : Int32) (v2 : Int32) (v3 : Int32) (t0 : Int32) (z0 : St) : Prop := ∀ z1 : St, z1 = wI z0 31 0 t0 → (((z1.1 31 0) ≤ 0) → vp_in ((3 : Int32) * (z1.1 31 1)) 120 ∧ ∀ z2 : St, z2 = wI z1 32 ((3 : Int32) * (z1.1 31 1)).toNatClampNeg v1 → vp_in (((3 : Int32) * (z2.1 31 1)) + (1 : Int32)) 120 ∧ ∀ z3 : St, z3 = wI z2 32 (((3 : Int32) * (z2.1 31 1)) + (1 : Int32)).toNatClampNeg v2 → vp_in (((3 : Int32) * (z3.1 31 1)) + (2 : Int32)) 120 ∧ ∀ z4 : St, z4 = wI z3 32 (((3 : Int32) * (z3.1 31 1)) + (2 : Int32)).toNatClampNeg v3 → ∃ k138 : Nat, L_M_person_138 (fun (x9 : Int32) (z10 : St) => ((x9 = 0) → J_M_person_203 Q (0 : Int32) z10) ∧ ((¬ x9 = 0) → ((¬ (z10.1 31 8) = (16 : Int32)) → J_M_person_203 Q (0 : Int32) z10) ∧ (((z10.1 31 8) = (16 : Int32)) → J_M_person_203 Q (2 : Int32) z10))) Q k138 (1 : Int32) (0 : Int32) z4) ∧ ((¬ (z1.1 31 0) ≤ 0) → Q (0 : Int32) z1)
def J_M_person_47 (Q : Int32 → St → Prop) (v1 : Int32) (v2 : Int32) (v3 : Int32) (t0 : Int32) (z0 : St) : Prop := ((t0 = 0) → ((¬ (z0.1 31 19) = 0) → J_M_person_80 Q v1 v2 v3 (2 : Int32) z0) ∧ (((z0.1 31 19) = 0) → ((¬ (z0.1 31 1) = (40 : Int32)) → J_M_person_80 Q v1 v2 v3 (0 : Int32) z0) ∧ (((z0.1 31 1) = (40 : Int32)) → J_M_person_80 Q v1 v2 v3 (2 : Int32) z0))) ∧ ((¬ t0 = 0) → J_M_person_80 Q v1 v2 v3 (1 : Int32) z0)
def P_M_person (a1 : Int32) (a2 : Int32) (a3 : Int32) (z0 : St) (Q : Int32 → St → Prop) : Prop := ((a1 < 0) → J_M_person_47 Q a1 a2 a3 (1 : Int32) z0) ∧ ((¬ a1 < 0) → vp_in (0 : Int32) 3 ∧ (((z0.1 34 (0 : Int32).toNatClampNeg) ≤ a1) → J_M_person_47 Q a1 a2 a3 (1 : Int32) z0) ∧ ((¬ (z0.1 34 (0 : Int32).toNatClampNeg) ≤ a1) → ((a2 < 0) → J_M_person_47 Q a1 a2 a3 (1 : Int32) z0) ∧ ((¬ a2 < 0) → vp_in (1 : Int32) 3 ∧ (((z0.1 34 (1 : Int32).toNatClampNeg) ≤ a2) → J_M_person_47 Q a1 a2 a3 (1 : Int32) z0) ∧ ((¬ (z0.1 34 (1 : Int32).toNatClampNeg) ≤ a2) → ((a3 < 0) → J_M_person_47 Q a1 a2 a3 (1 : Int32) z0) ∧ ((¬ a3 < 0) → vp_in (2 : Int32) 3 ∧ ((a3 < (z0.1 34 (2 : Int32).toNatClampNeg)) → J_M_person_47 Q a1 a2 a3 (0 : Int32) z0) ∧ ((¬ a3 < (z0.1 34 (2 : Int32).toNatClampNeg)) → J_M_person_47 Q a1 a2 a3 (1 : Int32) z0))))))
set_option maxHeartbeats 4000000 in
set_option maxRecDepth 100000 in
theorem wJ_M_person_174 {K138 : Int32 → Int32 → St → Prop} {K183 : Int32 → St → Prop} {Q : Int32 → St → Prop} (E : En p l s m meth c args cc_M_person 7 R_M (some .int) G)
    (hK138 : ∀ (v5 : Int32) (v6 : Int32) (z0 : St) (ls : Array Slot) (H : Heap) (locs : List Loc), K138 v5 v6 z0 → lv_has ls 7 [(0, .ref (ha G 31)), (5, .int v5), (6, .int v6)] → Wd G z0 s.heap H locs → W p l e rm_M_person s m args below meth c H locs 0 0 (MQ below (QiR Q G) args s 0 0 (fr G)) (F0 m 138 ls []))
    (hK183 : ∀ (v5 : Int32) (z0 : St) (ls : Array Slot) (H : Heap) (locs : List Loc), K183 v5 z0 → lv_has ls 7 [(0, .ref (ha G 31)), (5, .int v5)] → Wd G z0 s.heap H locs → W p l e rm_M_person s m args below meth c H locs 0 0 (MQ below (QiR Q G) args s 0 0 (fr G)) (F0 m 183 ls []))
    (v6 : Int32) (z0 : St) (ls : Array Slot) (H : Heap) (locs : List Loc) (hP : J_M_person_174 K138 K183 Q v6 z0) (hl : lv_has ls 7 [(0, .ref (ha G 31)), (6, .int v6)]) (hW : Wd G z0 s.heap H locs) : W p l e rm_M_person s m args below meth c H locs 0 0 (MQ below (QiR Q G) args s 0 0 (fr G)) (F0 m 174 ls []) := by
  obtain ⟨hx, hb, hml, hown, hr, hlk, hex, hE⟩ := id E
  refine lv_iconst (v := 0) hx hb d_M_person_174 (by decide) ?_
  refine lv_istore (lv' := [(5, .int (0 : Int32)), (0, .ref (ha G 31)), (6, .int v6)]) hx hb d_M_person_175 hl (by decide) rfl (fun ls hl => ?_)
  obtain ⟨x5, e_x5⟩ : ∃ z : Int32, z = v6 + 1 := ⟨_, rfl⟩
  have hP := hP x5 e_x5
  refine lv_iinc (k := 2) (lv' := [(6, .int x5), (5, .int (0 : Int32)), (0, .ref (ha G 31))]) hx hb d_M_person_177 hl rfl (ii_p1 e_x5) (by decide) rfl (fun ls hl => ?_)
  refine lv_goto (tgt := 138) hx hb d_M_person_180 rfl ?_
  exact hK138 _ _ _ _ _ _ hP (lv_sub hl [2, 1, 0] rfl) hW
set_option maxHeartbeats 4000000 in
set_option maxRecDepth 100000 in
theorem wL_M_person_138 {K183 : Int32 → St → Prop} {Q : Int32 → St → Prop} (E : En p l s m meth c args cc_M_person 7 R_M (some .int) G)
    (hK183 : ∀ (v5 : Int32) (z0 : St) (ls : Array Slot) (H : Heap) (locs : List Loc), K183 v5 z0 → lv_has ls 7 [(0, .ref (ha G 31)), (5, .int v5)] → Wd G z0 s.heap H locs → W p l e rm_M_person s m args below meth c H locs 0 0 (MQ below (QiR Q G) args s 0 0 (fr G)) (F0 m 183 ls [])) :
    ∀ (n : Nat) (v5 : Int32) (v6 : Int32) (z0 : St) (ls : Array Slot) (H : Heap) (locs : List Loc), L_M_person_138 K183 Q n v5 v6 z0 → lv_has ls 7 [(0, .ref (ha G 31)), (5, .int v5), (6, .int v6)] → Wd G z0 s.heap H locs → W p l e rm_M_person s m args below meth c H locs 0 0 (MQ below (QiR Q G) args s 0 0 (fr G)) (F0 m 138 ls []) := by
  obtain ⟨hx, hb, hml, hown, hr, hlk, hex, hE⟩ := id E
  intro n
  induction n with
  | zero => exact fun _ _ _ _ _ _ hP _ _ => hP.elim
  | succ n ih =>
    intro v5 v6 z0 ls H locs hP hl hW
    refine lv_iload hx hb d_M_person_138 (lv_at hl 2 rfl) ?_
    refine lv_aload_n hx hb d_M_person_140 rfl (lv_at hl 0 rfl) ?_
    refine ygf_31_8 hx hb hown hE hW (lk_M_73 hE) d_M_person_141 ?_
    refine lv_icmp_ge (tgt := 183) hx hb d_M_person_144 rfl (fun hc => ?_) (fun hc => ?_)
    · have hP := hP.1 hc
      exact hK183 _ _ _ _ _ hP (lv_sub hl [0, 1] rfl) hW
    · have hP := hP.2 hc
      refine lv_iload hx hb d_M_person_147 (lv_at hl 1 rfl) ?_
      refine lv_if_eq (tgt := 174) hx hb d_M_person_149 rfl (fun hc => ?_) (fun hc => ?_)
      · have hP := hP.1 hc
        exact wJ_M_person_174 E ih hK183 _ _ _ _ _ hP (lv_sub hl [0, 2] rfl) hW
      · have hP := hP.2 hc
        refine lv_aload_n hx hb d_M_person_152 rfl (lv_at hl 0 rfl) ?_
        refine ygf_31_9 hx hb hown hE hW (lk_M_30 hE) d_M_person_153 ?_
        refine lv_iload hx hb d_M_person_156 (lv_at hl 2 rfl) ?_
        refine ya_37 hx hb hE hW hP.1 d_M_person_158 ?_
        have hP := hP.2
        refine lv_aload_n hx hb d_M_person_159 rfl (lv_at hl 0 rfl) ?_
        refine lv_aload_n hx hb d_M_person_160 rfl (lv_at hl 0 rfl) ?_
        refine ygf_31_1 hx hb hown hE hW (lk_M_76 hE) d_M_person_161 ?_
        refine yc_i (yV (As := [.int (z0.1 31 1)]) (rest := [.int (z0.1 37 v6.toNatClampNeg)]) E (c_M_is _ _ _ hP) (cw_M_79 hE) (yrv_31 hE hW) (by decide) hW hl.1 rfl rfl rfl d_M_person_164) hW (fun x7 z6 H locs hP hW => ?_)
        refine lv_icmp_eq (tgt := 174) hx hb d_M_person_167 rfl (fun hc => ?_) (fun hc => ?_)
        · have hP := hP.1 hc
          exact wJ_M_person_174 E ih hK183 _ _ _ _ _ hP (lv_sub hl [0, 2] rfl) hW
        · have hP := hP.2 hc
          refine lv_iconst (v := 1) hx hb d_M_person_170 (by decide) ?_
          refine lv_goto (tgt := 175) hx hb d_M_person_171 rfl ?_
          refine lv_istore (lv' := [(5, .int (1 : Int32)), (0, .ref (ha G 31)), (6, .int v6)]) hx hb d_M_person_175 hl (by decide) rfl (fun ls hl => ?_)
          obtain ⟨x8, e_x8⟩ : ∃ z : Int32, z = v6 + 1 := ⟨_, rfl⟩
          have hP := hP x8 e_x8
          refine lv_iinc (k := 2) (lv' := [(6, .int x8), (5, .int (1 : Int32)), (0, .ref (ha G 31))]) hx hb d_M_person_177 hl rfl (ii_p1 e_x8) (by decide) rfl (fun ls hl => ?_)
          refine lv_goto (tgt := 138) hx hb d_M_person_180 rfl ?_
          exact ih _ _ _ _ _ _ hP (lv_sub hl [2, 1, 0] rfl) hW
set_option maxHeartbeats 4000000 in
set_option maxRecDepth 100000 in
theorem wJ_M_person_203 {Q : Int32 → St → Prop} (E : En p l s m meth c args cc_M_person 7 R_M (some .int) G)
    (t0 : Int32) (z0 : St) (ls : Array Slot) (H : Heap) (locs : List Loc) (hP : J_M_person_203 Q t0 z0) (hl : lv_has ls 7 [(0, .ref (ha G 31))]) (hW : Wd G z0 s.heap H locs) : W p l e rm_M_person s m args below meth c H locs 0 0 (MQ below (QiR Q G) args s 0 0 (fr G)) (F0 m 203 ls [.int t0, .ref (ha G 31)]) := by
  obtain ⟨hx, hb, hml, hown, hr, hlk, hex, hE⟩ := id E
  refine ypf_31_0 hx hb hown hE hW (lk_M_70 hE) d_M_person_203 (fun z11 H locs e_z11 hW => ?_)
  have hP := hP z11 e_z11
  refine lv_aload_n hx hb d_M_person_206 rfl (lv_at hl 0 rfl) ?_
  refine ygf_31_0 hx hb hown hE hW (lk_M_70 hE) d_M_person_207 ?_
  refine lv_if_le (tgt := 215) hx hb d_M_person_210 rfl (fun hc => ?_) (fun hc => ?_)
  · have hP := hP.1 hc
    refine lv_aload_n hx hb d_M_person_215 rfl (lv_at hl 0 rfl) ?_
    refine ygf_31_3 hx hb hown hE hW (lk_M_13 hE) d_M_person_216 ?_
    refine lv_aload_n hx hb d_M_person_219 rfl (lv_at hl 0 rfl) ?_
    refine ygf_31_1 hx hb hown hE hW (lk_M_76 hE) d_M_person_220 ?_
    refine lv_iconst (v := 0) hx hb d_M_person_223 (by decide) ?_
    refine ys_33 hx hb hE hW zb_0 hP.1 d_M_person_224 (fun z12 H locs e_z12 hW => ?_)
    have hP := hP.2
    have hP := hP z12 e_z12
    refine lv_aload_n hx hb d_M_person_225 rfl (lv_at hl 0 rfl) ?_
    refine ygf_31_22 hx hb hown hE hW (lk_M_58 hE) d_M_person_226 ?_
    refine lv_aload_n hx hb d_M_person_229 rfl (lv_at hl 0 rfl) ?_
    refine ygf_31_1 hx hb hown hE hW (lk_M_76 hE) d_M_person_230 ?_
    refine lv_iconst (v := 0) hx hb d_M_person_233 (by decide) ?_
    refine ys_45 hx hb hE hW zb_0 hP.1 d_M_person_234 (fun z13 H locs e_z13 hW => ?_)
    have hP := hP.2
    have hP := hP z13 e_z13
    refine lv_aload_n hx hb d_M_person_235 rfl (lv_at hl 0 rfl) ?_
    refine lv_dup hx hb d_M_person_236 rfl ?_
    refine ygf_31_1 hx hb hown hE hW (lk_M_76 hE) d_M_person_237 ?_
    refine lv_iconst (v := 1) hx hb d_M_person_240 (by decide) ?_
    refine lv_iadd hx hb d_M_person_241 ?_
    refine ypf_31_1 hx hb hown hE hW (lk_M_76 hE) d_M_person_242 (fun z14 H locs e_z14 hW => ?_)
    have hP := hP z14 e_z14
    refine lv_aload_n hx hb d_M_person_245 rfl (lv_at hl 0 rfl) ?_
    refine yc_v (yV (As := []) (rest := []) E (c_M_changed _ _ hP) (cw_M_103 hE) (yrv_31 hE hW) (by decide) hW hl.1 rfl rfl rfl d_M_person_246) hW (fun z15 H locs hP hW => ?_)
    refine lv_aload_n hx hb d_M_person_249 rfl (lv_at hl 0 rfl) ?_
    refine ygf_31_1 hx hb hown hE hW (lk_M_76 hE) d_M_person_250 ?_
    refine lv_iconst (v := 1) hx hb d_M_person_253 (by decide) ?_
    refine lv_isub hx hb d_M_person_254 ?_
    exact yr_i hx hb hr hlk hW hP d_M_person_255
  · have hP := hP.2 hc
    refine lv_iconst (v := 0) hx hb d_M_person_213 (by decide) ?_
    exact yr_i hx hb hr hlk hW hP d_M_person_214
set_option maxHeartbeats 4000000 in
set_option maxRecDepth 100000 in
theorem wJ_M_person_80 {Q : Int32 → St → Prop} (E : En p l s m meth c args cc_M_person 7 R_M (some .int) G)
    (v1 : Int32) (v2 : Int32) (v3 : Int32) (t0 : Int32) (z0 : St) (ls : Array Slot) (H : Heap) (locs : List Loc) (hP : J_M_person_80 Q v1 v2 v3 t0 z0) (hl : lv_has ls 7 [(0, .ref (ha G 31)), (1, .int v1), (2, .int v2), (3, .int v3)]) (hW : Wd G z0 s.heap H locs) : W p l e rm_M_person s m args below meth c H locs 0 0 (MQ below (QiR Q G) args s 0 0 (fr G)) (F0 m 80 ls [.int t0, .ref (ha G 31)]) := by
  obtain ⟨hx, hb, hml, hown, hr, hlk, hex, hE⟩ := id E
  refine ypf_31_0 hx hb hown hE hW (lk_M_70 hE) d_M_person_80 (fun z1 H locs e_z1 hW => ?_)
  have hP := hP z1 e_z1
  refine lv_aload_n hx hb d_M_person_83 rfl (lv_at hl 0 rfl) ?_
  refine ygf_31_0 hx hb hown hE hW (lk_M_70 hE) d_M_person_84 ?_
  refine lv_if_le (tgt := 92) hx hb d_M_person_87 rfl (fun hc => ?_) (fun hc => ?_)
  · have hP := hP.1 hc
    refine lv_aload_n hx hb d_M_person_92 rfl (lv_at hl 0 rfl) ?_
    refine ygf_31_2 hx hb hown hE hW (lk_M_7 hE) d_M_person_93 ?_
    refine lv_iconst (v := 3) hx hb d_M_person_96 (by decide) ?_
    refine lv_aload_n hx hb d_M_person_97 rfl (lv_at hl 0 rfl) ?_
    refine ygf_31_1 hx hb hown hE hW (lk_M_76 hE) d_M_person_98 ?_
    refine lv_imul hx hb d_M_person_101 ?_
    refine lv_iload_n hx hb d_M_person_102 rfl (lv_at hl 1 rfl) ?_
    refine ys_32 hx hb hE hW hP.1 d_M_person_103 (fun z2 H locs e_z2 hW => ?_)
    have hP := hP.2
    have hP := hP z2 e_z2
    refine lv_aload_n hx hb d_M_person_104 rfl (lv_at hl 0 rfl) ?_
    refine ygf_31_2 hx hb hown hE hW (lk_M_7 hE) d_M_person_105 ?_
    refine lv_iconst (v := 3) hx hb d_M_person_108 (by decide) ?_
    refine lv_aload_n hx hb d_M_person_109 rfl (lv_at hl 0 rfl) ?_
    refine ygf_31_1 hx hb hown hE hW (lk_M_76 hE) d_M_person_110 ?_
    refine lv_imul hx hb d_M_person_113 ?_
    refine lv_iconst (v := 1) hx hb d_M_person_114 (by decide) ?_
    refine lv_iadd hx hb d_M_person_115 ?_
    refine lv_iload_n hx hb d_M_person_116 rfl (lv_at hl 2 rfl) ?_
    refine ys_32 hx hb hE hW hP.1 d_M_person_117 (fun z3 H locs e_z3 hW => ?_)
    have hP := hP.2
    have hP := hP z3 e_z3
    refine lv_aload_n hx hb d_M_person_118 rfl (lv_at hl 0 rfl) ?_
    refine ygf_31_2 hx hb hown hE hW (lk_M_7 hE) d_M_person_119 ?_
    refine lv_iconst (v := 3) hx hb d_M_person_122 (by decide) ?_
    refine lv_aload_n hx hb d_M_person_123 rfl (lv_at hl 0 rfl) ?_
    refine ygf_31_1 hx hb hown hE hW (lk_M_76 hE) d_M_person_124 ?_
    refine lv_imul hx hb d_M_person_127 ?_
    refine lv_iconst (v := 2) hx hb d_M_person_128 (by decide) ?_
    refine lv_iadd hx hb d_M_person_129 ?_
    refine lv_iload_n hx hb d_M_person_130 rfl (lv_at hl 3 rfl) ?_
    refine ys_32 hx hb hE hW hP.1 d_M_person_131 (fun z4 H locs e_z4 hW => ?_)
    have hP := hP.2
    have hP := hP z4 e_z4
    refine lv_iconst (v := 1) hx hb d_M_person_132 (by decide) ?_
    refine lv_istore (lv' := [(5, .int (1 : Int32)), (0, .ref (ha G 31)), (1, .int v1), (2, .int v2), (3, .int v3)]) hx hb d_M_person_133 hl (by decide) rfl (fun ls hl => ?_)
    refine lv_iconst (v := 0) hx hb d_M_person_135 (by decide) ?_
    refine lv_istore (lv' := [(6, .int (0 : Int32)), (5, .int (1 : Int32)), (0, .ref (ha G 31)), (1, .int v1), (2, .int v2), (3, .int v3)]) hx hb d_M_person_136 hl (by decide) rfl (fun ls hl => ?_)
    obtain ⟨n2, hP⟩ := hP
    refine wL_M_person_138 E ?_ n2 _ _ _ _ _ _ hP (lv_sub hl [2, 1, 0] rfl) hW
    · intro x9 z10 ls H locs hP hl hW
      refine lv_aload_n hx hb d_M_person_183 rfl (lv_at hl 0 rfl) ?_
      refine lv_iload hx hb d_M_person_184 (lv_at hl 1 rfl) ?_
      refine lv_if_eq (tgt := 202) hx hb d_M_person_186 rfl (fun hc => ?_) (fun hc => ?_)
      · have hP := hP.1 hc
        refine lv_iconst (v := 0) hx hb d_M_person_202 (by decide) ?_
        exact wJ_M_person_203 E _ _ _ _ _ hP (lv_sub hl [0] rfl) hW
      · have hP := hP.2 hc
        refine lv_aload_n hx hb d_M_person_189 rfl (lv_at hl 0 rfl) ?_
        refine ygf_31_8 hx hb hown hE hW (lk_M_73 hE) d_M_person_190 ?_
        refine lv_bipush (v := 16) hx hb d_M_person_193 (by decide) ?_
        refine lv_icmp_ne (tgt := 202) hx hb d_M_person_195 rfl (fun hc => ?_) (fun hc => ?_)
        · have hP := hP.1 hc
          refine lv_iconst (v := 0) hx hb d_M_person_202 (by decide) ?_
          exact wJ_M_person_203 E _ _ _ _ _ hP (lv_sub hl [0] rfl) hW
        · have hP := hP.2 hc
          refine lv_iconst (v := 2) hx hb d_M_person_198 (by decide) ?_
          refine lv_goto (tgt := 203) hx hb d_M_person_199 rfl ?_
          exact wJ_M_person_203 E _ _ _ _ _ hP (lv_sub hl [0] rfl) hW
  · have hP := hP.2 hc
    refine lv_iconst (v := 0) hx hb d_M_person_90 (by decide) ?_
    exact yr_i hx hb hr hlk hW hP d_M_person_91
set_option maxHeartbeats 4000000 in
set_option maxRecDepth 100000 in
theorem wJ_M_person_47 {Q : Int32 → St → Prop} (E : En p l s m meth c args cc_M_person 7 R_M (some .int) G)
    (v1 : Int32) (v2 : Int32) (v3 : Int32) (t0 : Int32) (z0 : St) (ls : Array Slot) (H : Heap) (locs : List Loc) (hP : J_M_person_47 Q v1 v2 v3 t0 z0) (hl : lv_has ls 7 [(0, .ref (ha G 31)), (1, .int v1), (2, .int v2), (3, .int v3)]) (hW : Wd G z0 s.heap H locs) : W p l e rm_M_person s m args below meth c H locs 0 0 (MQ below (QiR Q G) args s 0 0 (fr G)) (F0 m 47 ls [.int t0]) := by
  obtain ⟨hx, hb, hml, hown, hr, hlk, hex, hE⟩ := id E
  refine lv_istore (lv' := [(4, .int t0), (0, .ref (ha G 31)), (1, .int v1), (2, .int v2), (3, .int v3)]) hx hb d_M_person_47 hl (by decide) rfl (fun ls hl => ?_)
  refine lv_aload_n hx hb d_M_person_49 rfl (lv_at hl 1 rfl) ?_
  refine lv_iload hx hb d_M_person_50 (lv_at hl 0 rfl) ?_
  refine lv_if_eq (tgt := 59) hx hb d_M_person_52 rfl (fun hc => ?_) (fun hc => ?_)
  · have hP := hP.1 hc
    refine lv_aload_n hx hb d_M_person_59 rfl (lv_at hl 1 rfl) ?_
    refine ygf_31_19 hx hb hown hE hW (lk_M_100 hE) d_M_person_60 ?_
    refine lv_if_ne (tgt := 75) hx hb d_M_person_63 rfl (fun hc => ?_) (fun hc => ?_)
    · have hP := hP.1 hc
      refine lv_iconst (v := 2) hx hb d_M_person_75 (by decide) ?_
      refine lv_goto (tgt := 80) hx hb d_M_person_76 rfl ?_
      exact wJ_M_person_80 E _ _ _ _ _ _ _ _ hP (lv_sub hl [1, 2, 3, 4] rfl) hW
    · have hP := hP.2 hc
      refine lv_aload_n hx hb d_M_person_66 rfl (lv_at hl 1 rfl) ?_
      refine ygf_31_1 hx hb hown hE hW (lk_M_76 hE) d_M_person_67 ?_
      refine lv_bipush (v := 40) hx hb d_M_person_70 (by decide) ?_
      refine lv_icmp_ne (tgt := 79) hx hb d_M_person_72 rfl (fun hc => ?_) (fun hc => ?_)
      · have hP := hP.1 hc
        refine lv_iconst (v := 0) hx hb d_M_person_79 (by decide) ?_
        exact wJ_M_person_80 E _ _ _ _ _ _ _ _ hP (lv_sub hl [1, 2, 3, 4] rfl) hW
      · have hP := hP.2 hc
        refine lv_iconst (v := 2) hx hb d_M_person_75 (by decide) ?_
        refine lv_goto (tgt := 80) hx hb d_M_person_76 rfl ?_
        exact wJ_M_person_80 E _ _ _ _ _ _ _ _ hP (lv_sub hl [1, 2, 3, 4] rfl) hW
  · have hP := hP.2 hc
    refine lv_iconst (v := 1) hx hb d_M_person_55 (by decide) ?_
    refine lv_goto (tgt := 80) hx hb d_M_person_56 rfl ?_
    exact wJ_M_person_80 E _ _ _ _ _ _ _ _ hP (lv_sub hl [1, 2, 3, 4] rfl) hW
set_option maxHeartbeats 4000000 in
set_option maxRecDepth 100000 in
theorem c_M_person {l : Launch} {G : GG} (a1 : Int32) (a2 : Int32) (a3 : Int32) (z0 : St) (Q : Int32 → St → Prop) (hP : P_M_person a1 a2 a3 z0 Q) : Cti l y_M_person cc_M_person 7 (some .int) rm_M_person G [.ref (ha G 31), .int a1, .int a2, .int a3] z0 Q := by
  refine Cti.op (own := R_M) (by decide) rfl (Nat.le_of_ble_eq_true rfl) (fun p e s m args below meth c ls E hl hW => ?_)
  obtain ⟨hx, hb, hml, hown, hr, hlk, hex, hE⟩ := id E
  have hl : lv_has ls 7 [(0, .ref (ha G 31)), (1, .int a1), (2, .int a2), (3, .int a3)] := hl
  refine lv_iload_n hx hb d_M_person_0 rfl (lv_at hl 1 rfl) ?_
  refine lv_if_lt (tgt := 42) hx hb d_M_person_1 rfl (fun hc => ?_) (fun hc => ?_)
  · have hP := hP.1 hc
    refine lv_iconst (v := 1) hx hb d_M_person_42 (by decide) ?_
    refine lv_goto (tgt := 47) hx hb d_M_person_43 rfl ?_
    exact wJ_M_person_47 E _ _ _ _ _ _ _ _ hP hl hW
  · have hP := hP.2 hc
    refine lv_iload_n hx hb d_M_person_4 rfl (lv_at hl 1 rfl) ?_
    refine lv_aload_n hx hb d_M_person_5 rfl (lv_at hl 0 rfl) ?_
    refine ygf_31_4 hx hb hown hE hW (lk_M_17 hE) d_M_person_6 ?_
    refine lv_iconst (v := 0) hx hb d_M_person_9 (by decide) ?_
    refine ya_34 hx hb hE hW hP.1 d_M_person_10 ?_
    have hP := hP.2
    refine lv_icmp_ge (tgt := 42) hx hb d_M_person_11 rfl (fun hc => ?_) (fun hc => ?_)
    · have hP := hP.1 hc
      refine lv_iconst (v := 1) hx hb d_M_person_42 (by decide) ?_
      refine lv_goto (tgt := 47) hx hb d_M_person_43 rfl ?_
      exact wJ_M_person_47 E _ _ _ _ _ _ _ _ hP hl hW
    · have hP := hP.2 hc
      refine lv_iload_n hx hb d_M_person_14 rfl (lv_at hl 2 rfl) ?_
      refine lv_if_lt (tgt := 42) hx hb d_M_person_15 rfl (fun hc => ?_) (fun hc => ?_)
      · have hP := hP.1 hc
        refine lv_iconst (v := 1) hx hb d_M_person_42 (by decide) ?_
        refine lv_goto (tgt := 47) hx hb d_M_person_43 rfl ?_
        exact wJ_M_person_47 E _ _ _ _ _ _ _ _ hP hl hW
      · have hP := hP.2 hc
        refine lv_iload_n hx hb d_M_person_18 rfl (lv_at hl 2 rfl) ?_
        refine lv_aload_n hx hb d_M_person_19 rfl (lv_at hl 0 rfl) ?_
        refine ygf_31_4 hx hb hown hE hW (lk_M_17 hE) d_M_person_20 ?_
        refine lv_iconst (v := 1) hx hb d_M_person_23 (by decide) ?_
        refine ya_34 hx hb hE hW hP.1 d_M_person_24 ?_
        have hP := hP.2
        refine lv_icmp_ge (tgt := 42) hx hb d_M_person_25 rfl (fun hc => ?_) (fun hc => ?_)
        · have hP := hP.1 hc
          refine lv_iconst (v := 1) hx hb d_M_person_42 (by decide) ?_
          refine lv_goto (tgt := 47) hx hb d_M_person_43 rfl ?_
          exact wJ_M_person_47 E _ _ _ _ _ _ _ _ hP hl hW
        · have hP := hP.2 hc
          refine lv_iload_n hx hb d_M_person_28 rfl (lv_at hl 3 rfl) ?_
          refine lv_if_lt (tgt := 42) hx hb d_M_person_29 rfl (fun hc => ?_) (fun hc => ?_)
          · have hP := hP.1 hc
            refine lv_iconst (v := 1) hx hb d_M_person_42 (by decide) ?_
            refine lv_goto (tgt := 47) hx hb d_M_person_43 rfl ?_
            exact wJ_M_person_47 E _ _ _ _ _ _ _ _ hP hl hW
          · have hP := hP.2 hc
            refine lv_iload_n hx hb d_M_person_32 rfl (lv_at hl 3 rfl) ?_
            refine lv_aload_n hx hb d_M_person_33 rfl (lv_at hl 0 rfl) ?_
            refine ygf_31_4 hx hb hown hE hW (lk_M_17 hE) d_M_person_34 ?_
            refine lv_iconst (v := 2) hx hb d_M_person_37 (by decide) ?_
            refine ya_34 hx hb hE hW hP.1 d_M_person_38 ?_
            have hP := hP.2
            refine lv_icmp_lt (tgt := 46) hx hb d_M_person_39 rfl (fun hc => ?_) (fun hc => ?_)
            · have hP := hP.1 hc
              refine lv_iconst (v := 0) hx hb d_M_person_46 (by decide) ?_
              exact wJ_M_person_47 E _ _ _ _ _ _ _ _ hP hl hW
            · have hP := hP.2 hc
              refine lv_iconst (v := 1) hx hb d_M_person_42 (by decide) ?_
              refine lv_goto (tgt := 47) hx hb d_M_person_43 rfl ?_
              exact wJ_M_person_47 E _ _ _ _ _ _ _ _ hP hl hW
theorem d_M_quota_0 : decode cc_M_quota 0 = .ok (.iload_n 1, 1) := by decide +kernel
theorem d_M_quota_1 : decode cc_M_quota 1 = .ok (.invokestatic 96, 3) := by decide +kernel
theorem d_M_quota_4 : decode cc_M_quota 4 = .ok (.ifCond .eq 45, 3) := by decide +kernel
theorem d_M_quota_7 : decode cc_M_quota 7 = .ok (.iload_n 2, 1) := by decide +kernel
theorem d_M_quota_8 : decode cc_M_quota 8 = .ok (.ifCond .lt 41, 3) := by decide +kernel
theorem d_M_quota_11 : decode cc_M_quota 11 = .ok (.iload_n 2, 1) := by decide +kernel
theorem d_M_quota_12 : decode cc_M_quota 12 = .ok (.aload_n 0, 1) := by decide +kernel
theorem d_M_quota_13 : decode cc_M_quota 13 = .ok (.getfield 17, 3) := by decide +kernel
theorem d_M_quota_16 : decode cc_M_quota 16 = .ok (.iload_n 1, 1) := by decide +kernel
theorem d_M_quota_17 : decode cc_M_quota 17 = .ok (.invokestatic 96, 3) := by decide +kernel
theorem d_M_quota_20 : decode cc_M_quota 20 = .ok (.ifCond .eq 7, 3) := by decide +kernel
theorem d_M_quota_23 : decode cc_M_quota 23 = .ok (.iload_n 1, 1) := by decide +kernel
theorem d_M_quota_24 : decode cc_M_quota 24 = .ok (.goto 4, 3) := by decide +kernel
theorem d_M_quota_27 : decode cc_M_quota 27 = .ok (.iconst 0, 1) := by decide +kernel
theorem d_M_quota_28 : decode cc_M_quota 28 = .ok (.iaload, 1) := by decide +kernel
theorem d_M_quota_29 : decode cc_M_quota 29 = .ok (.if_icmp .ge 20, 3) := by decide +kernel
theorem d_M_quota_32 : decode cc_M_quota 32 = .ok (.iload_n 3, 1) := by decide +kernel
theorem d_M_quota_33 : decode cc_M_quota 33 = .ok (.ifCond .lt 16, 3) := by decide +kernel
theorem d_M_quota_36 : decode cc_M_quota 36 = .ok (.iload_n 3, 1) := by decide +kernel
theorem d_M_quota_37 : decode cc_M_quota 37 = .ok (.iload 4, 2) := by decide +kernel
theorem d_M_quota_39 : decode cc_M_quota 39 = .ok (.if_icmp .gt 10, 3) := by decide +kernel
theorem d_M_quota_42 : decode cc_M_quota 42 = .ok (.iload 4, 2) := by decide +kernel
theorem d_M_quota_44 : decode cc_M_quota 44 = .ok (.bipush 8, 2) := by decide +kernel
theorem d_M_quota_46 : decode cc_M_quota 46 = .ok (.if_icmp .le 7, 3) := by decide +kernel
theorem d_M_quota_49 : decode cc_M_quota 49 = .ok (.iconst 1, 1) := by decide +kernel
theorem d_M_quota_50 : decode cc_M_quota 50 = .ok (.goto 4, 3) := by decide +kernel
theorem d_M_quota_53 : decode cc_M_quota 53 = .ok (.iconst 0, 1) := by decide +kernel
theorem d_M_quota_54 : decode cc_M_quota 54 = .ok (.istore 5, 2) := by decide +kernel
theorem d_M_quota_56 : decode cc_M_quota 56 = .ok (.aload_n 0, 1) := by decide +kernel
theorem d_M_quota_57 : decode cc_M_quota 57 = .ok (.iload 5, 2) := by decide +kernel
theorem d_M_quota_59 : decode cc_M_quota 59 = .ok (.ifCond .eq 7, 3) := by decide +kernel
theorem d_M_quota_62 : decode cc_M_quota 62 = .ok (.iconst 1, 1) := by decide +kernel
theorem d_M_quota_63 : decode cc_M_quota 63 = .ok (.goto 15, 3) := by decide +kernel
theorem d_M_quota_66 : decode cc_M_quota 66 = .ok (.aload_n 0, 1) := by decide +kernel
theorem d_M_quota_67 : decode cc_M_quota 67 = .ok (.getfield 100, 3) := by decide +kernel
theorem d_M_quota_70 : decode cc_M_quota 70 = .ok (.ifCond .eq 7, 3) := by decide +kernel
theorem d_M_quota_73 : decode cc_M_quota 73 = .ok (.iconst 2, 1) := by decide +kernel
theorem d_M_quota_74 : decode cc_M_quota 74 = .ok (.goto 4, 3) := by decide +kernel
theorem d_M_quota_77 : decode cc_M_quota 77 = .ok (.iconst 0, 1) := by decide +kernel
theorem d_M_quota_78 : decode cc_M_quota 78 = .ok (.putfield 70, 3) := by decide +kernel
theorem d_M_quota_81 : decode cc_M_quota 81 = .ok (.aload_n 0, 1) := by decide +kernel
theorem d_M_quota_82 : decode cc_M_quota 82 = .ok (.getfield 70, 3) := by decide +kernel
theorem d_M_quota_85 : decode cc_M_quota 85 = .ok (.ifCond .le 4, 3) := by decide +kernel
theorem d_M_quota_88 : decode cc_M_quota 88 = .ok (.return_, 1) := by decide +kernel
theorem d_M_quota_89 : decode cc_M_quota 89 = .ok (.aload_n 0, 1) := by decide +kernel
theorem d_M_quota_90 : decode cc_M_quota 90 = .ok (.getfield 20, 3) := by decide +kernel
theorem d_M_quota_93 : decode cc_M_quota 93 = .ok (.iconst 4, 1) := by decide +kernel
theorem d_M_quota_94 : decode cc_M_quota 94 = .ok (.iload_n 1, 1) := by decide +kernel
theorem d_M_quota_95 : decode cc_M_quota 95 = .ok (.imul, 1) := by decide +kernel
theorem d_M_quota_96 : decode cc_M_quota 96 = .ok (.iload_n 2, 1) := by decide +kernel
theorem d_M_quota_97 : decode cc_M_quota 97 = .ok (.iadd, 1) := by decide +kernel
theorem d_M_quota_98 : decode cc_M_quota 98 = .ok (.iload_n 3, 1) := by decide +kernel
theorem d_M_quota_99 : decode cc_M_quota 99 = .ok (.iastore, 1) := by decide +kernel
theorem d_M_quota_100 : decode cc_M_quota 100 = .ok (.aload_n 0, 1) := by decide +kernel
theorem d_M_quota_101 : decode cc_M_quota 101 = .ok (.getfield 23, 3) := by decide +kernel
theorem d_M_quota_104 : decode cc_M_quota 104 = .ok (.iconst 4, 1) := by decide +kernel
theorem d_M_quota_105 : decode cc_M_quota 105 = .ok (.iload_n 1, 1) := by decide +kernel
theorem d_M_quota_106 : decode cc_M_quota 106 = .ok (.imul, 1) := by decide +kernel
theorem d_M_quota_107 : decode cc_M_quota 107 = .ok (.iload_n 2, 1) := by decide +kernel
theorem d_M_quota_108 : decode cc_M_quota 108 = .ok (.iadd, 1) := by decide +kernel
theorem d_M_quota_109 : decode cc_M_quota 109 = .ok (.iload 4, 2) := by decide +kernel
theorem d_M_quota_111 : decode cc_M_quota 111 = .ok (.iastore, 1) := by decide +kernel
theorem d_M_quota_112 : decode cc_M_quota 112 = .ok (.aload_n 0, 1) := by decide +kernel
theorem d_M_quota_113 : decode cc_M_quota 113 = .ok (.invokevirtual 103, 3) := by decide +kernel
theorem d_M_quota_116 : decode cc_M_quota 116 = .ok (.return_, 1) := by decide +kernel
def J_M_quota_78 (Q : St → Prop) (v1 : Int32) (v2 : Int32) (v3 : Int32) (v4 : Int32) (t0 : Int32) (z0 : St) : Prop := ∀ z3 : St, z3 = wI z0 31 0 t0 → (((z3.1 31 0) ≤ 0) → vp_in (((4 : Int32) * v1) + v2) 12 ∧ ∀ z4 : St, z4 = wI z3 35 (((4 : Int32) * v1) + v2).toNatClampNeg v3 → vp_in (((4 : Int32) * v1) + v2) 12 ∧ ∀ z5 : St, z5 = wI z4 36 (((4 : Int32) * v1) + v2).toNatClampNeg v4 → P_M_changed z5 (fun (z6 : St) => Q z6)) ∧ ((¬ (z3.1 31 0) ≤ 0) → Q z3)
def J_M_quota_54 (Q : St → Prop) (v1 : Int32) (v2 : Int32) (v3 : Int32) (v4 : Int32) (t0 : Int32) (z0 : St) : Prop := ((t0 = 0) → (((z0.1 31 19) = 0) → J_M_quota_78 Q v1 v2 v3 v4 (0 : Int32) z0) ∧ ((¬ (z0.1 31 19) = 0) → J_M_quota_78 Q v1 v2 v3 v4 (2 : Int32) z0)) ∧ ((¬ t0 = 0) → J_M_quota_78 Q v1 v2 v3 v4 (1 : Int32) z0)
def J_M_quota_28 (Q : St → Prop) (v1 : Int32) (v2 : Int32) (v3 : Int32) (v4 : Int32) (t0 : Int32) (t2 : Int32) (z0 : St) : Prop := vp_in t0 3 ∧ (((z0.1 34 t0.toNatClampNeg) ≤ t2) → J_M_quota_54 Q v1 v2 v3 v4 (1 : Int32) z0) ∧ ((¬ (z0.1 34 t0.toNatClampNeg) ≤ t2) → ((v3 < 0) → J_M_quota_54 Q v1 v2 v3 v4 (1 : Int32) z0) ∧ ((¬ v3 < 0) → ((v4 < v3) → J_M_quota_54 Q v1 v2 v3 v4 (1 : Int32) z0) ∧ ((¬ v4 < v3) → ((v4 ≤ (8 : Int32)) → J_M_quota_54 Q v1 v2 v3 v4 (0 : Int32) z0) ∧ ((¬ v4 ≤ (8 : Int32)) → J_M_quota_54 Q v1 v2 v3 v4 (1 : Int32) z0))))
def P_M_quota (a1 : Int32) (a2 : Int32) (a3 : Int32) (a4 : Int32) (z0 : St) (Q : St → Prop) : Prop := P_M_isTrait a1 z0 (fun (x2 : Int32) (z1 : St) => ((x2 = 0) → J_M_quota_54 Q a1 a2 a3 a4 (1 : Int32) z1) ∧ ((¬ x2 = 0) → ((a2 < 0) → J_M_quota_54 Q a1 a2 a3 a4 (1 : Int32) z1) ∧ ((¬ a2 < 0) → P_M_isTrait a1 z1 (fun (x8 : Int32) (z7 : St) => ((x8 = 0) → J_M_quota_28 Q a1 a2 a3 a4 (0 : Int32) a2 z7) ∧ ((¬ x8 = 0) → J_M_quota_28 Q a1 a2 a3 a4 a1 a2 z7)))))
set_option maxHeartbeats 4000000 in
set_option maxRecDepth 100000 in
theorem wJ_M_quota_78 {Q : St → Prop} (E : En p l s m meth c args cc_M_quota 6 R_M none G)
    (v1 : Int32) (v2 : Int32) (v3 : Int32) (v4 : Int32) (t0 : Int32) (z0 : St) (ls : Array Slot) (H : Heap) (locs : List Loc) (hP : J_M_quota_78 Q v1 v2 v3 v4 t0 z0) (hl : lv_has ls 6 [(0, .ref (ha G 31)), (1, .int v1), (2, .int v2), (3, .int v3), (4, .int v4)]) (hW : Wd G z0 s.heap H locs) : W p l e rm_M_quota s m args below meth c H locs 0 0 (MQ below (QvR Q G) args s 0 0 (fr G)) (F0 m 78 ls [.int t0, .ref (ha G 31)]) := by
  obtain ⟨hx, hb, hml, hown, hr, hlk, hex, hE⟩ := id E
  refine ypf_31_0 hx hb hown hE hW (lk_M_70 hE) d_M_quota_78 (fun z3 H locs e_z3 hW => ?_)
  have hP := hP z3 e_z3
  refine lv_aload_n hx hb d_M_quota_81 rfl (lv_at hl 0 rfl) ?_
  refine ygf_31_0 hx hb hown hE hW (lk_M_70 hE) d_M_quota_82 ?_
  refine lv_if_le (tgt := 89) hx hb d_M_quota_85 rfl (fun hc => ?_) (fun hc => ?_)
  · have hP := hP.1 hc
    refine lv_aload_n hx hb d_M_quota_89 rfl (lv_at hl 0 rfl) ?_
    refine ygf_31_5 hx hb hown hE hW (lk_M_20 hE) d_M_quota_90 ?_
    refine lv_iconst (v := 4) hx hb d_M_quota_93 (by decide) ?_
    refine lv_iload_n hx hb d_M_quota_94 rfl (lv_at hl 1 rfl) ?_
    refine lv_imul hx hb d_M_quota_95 ?_
    refine lv_iload_n hx hb d_M_quota_96 rfl (lv_at hl 2 rfl) ?_
    refine lv_iadd hx hb d_M_quota_97 ?_
    refine lv_iload_n hx hb d_M_quota_98 rfl (lv_at hl 3 rfl) ?_
    refine ys_35 hx hb hE hW hP.1 d_M_quota_99 (fun z4 H locs e_z4 hW => ?_)
    have hP := hP.2
    have hP := hP z4 e_z4
    refine lv_aload_n hx hb d_M_quota_100 rfl (lv_at hl 0 rfl) ?_
    refine ygf_31_6 hx hb hown hE hW (lk_M_23 hE) d_M_quota_101 ?_
    refine lv_iconst (v := 4) hx hb d_M_quota_104 (by decide) ?_
    refine lv_iload_n hx hb d_M_quota_105 rfl (lv_at hl 1 rfl) ?_
    refine lv_imul hx hb d_M_quota_106 ?_
    refine lv_iload_n hx hb d_M_quota_107 rfl (lv_at hl 2 rfl) ?_
    refine lv_iadd hx hb d_M_quota_108 ?_
    refine lv_iload hx hb d_M_quota_109 (lv_at hl 4 rfl) ?_
    refine ys_36 hx hb hE hW hP.1 d_M_quota_111 (fun z5 H locs e_z5 hW => ?_)
    have hP := hP.2
    have hP := hP z5 e_z5
    refine lv_aload_n hx hb d_M_quota_112 rfl (lv_at hl 0 rfl) ?_
    refine yc_v (yV (As := []) (rest := []) E (c_M_changed _ _ hP) (cw_M_103 hE) (yrv_31 hE hW) (by decide) hW hl.1 rfl rfl rfl d_M_quota_113) hW (fun z6 H locs hP hW => ?_)
    exact yr_v hx hb hr hlk hW hP d_M_quota_116
  · have hP := hP.2 hc
    exact yr_v hx hb hr hlk hW hP d_M_quota_88
set_option maxHeartbeats 4000000 in
set_option maxRecDepth 100000 in
theorem wJ_M_quota_54 {Q : St → Prop} (E : En p l s m meth c args cc_M_quota 6 R_M none G)
    (v1 : Int32) (v2 : Int32) (v3 : Int32) (v4 : Int32) (t0 : Int32) (z0 : St) (ls : Array Slot) (H : Heap) (locs : List Loc) (hP : J_M_quota_54 Q v1 v2 v3 v4 t0 z0) (hl : lv_has ls 6 [(0, .ref (ha G 31)), (1, .int v1), (2, .int v2), (3, .int v3), (4, .int v4)]) (hW : Wd G z0 s.heap H locs) : W p l e rm_M_quota s m args below meth c H locs 0 0 (MQ below (QvR Q G) args s 0 0 (fr G)) (F0 m 54 ls [.int t0]) := by
  obtain ⟨hx, hb, hml, hown, hr, hlk, hex, hE⟩ := id E
  refine lv_istore (lv' := [(5, .int t0), (0, .ref (ha G 31)), (1, .int v1), (2, .int v2), (3, .int v3), (4, .int v4)]) hx hb d_M_quota_54 hl (by decide) rfl (fun ls hl => ?_)
  refine lv_aload_n hx hb d_M_quota_56 rfl (lv_at hl 1 rfl) ?_
  refine lv_iload hx hb d_M_quota_57 (lv_at hl 0 rfl) ?_
  refine lv_if_eq (tgt := 66) hx hb d_M_quota_59 rfl (fun hc => ?_) (fun hc => ?_)
  · have hP := hP.1 hc
    refine lv_aload_n hx hb d_M_quota_66 rfl (lv_at hl 1 rfl) ?_
    refine ygf_31_19 hx hb hown hE hW (lk_M_100 hE) d_M_quota_67 ?_
    refine lv_if_eq (tgt := 77) hx hb d_M_quota_70 rfl (fun hc => ?_) (fun hc => ?_)
    · have hP := hP.1 hc
      refine lv_iconst (v := 0) hx hb d_M_quota_77 (by decide) ?_
      exact wJ_M_quota_78 E _ _ _ _ _ _ _ _ _ hP (lv_sub hl [1, 2, 3, 4, 5] rfl) hW
    · have hP := hP.2 hc
      refine lv_iconst (v := 2) hx hb d_M_quota_73 (by decide) ?_
      refine lv_goto (tgt := 78) hx hb d_M_quota_74 rfl ?_
      exact wJ_M_quota_78 E _ _ _ _ _ _ _ _ _ hP (lv_sub hl [1, 2, 3, 4, 5] rfl) hW
  · have hP := hP.2 hc
    refine lv_iconst (v := 1) hx hb d_M_quota_62 (by decide) ?_
    refine lv_goto (tgt := 78) hx hb d_M_quota_63 rfl ?_
    exact wJ_M_quota_78 E _ _ _ _ _ _ _ _ _ hP (lv_sub hl [1, 2, 3, 4, 5] rfl) hW
set_option maxHeartbeats 4000000 in
set_option maxRecDepth 100000 in
theorem wJ_M_quota_28 {Q : St → Prop} (E : En p l s m meth c args cc_M_quota 6 R_M none G)
    (v1 : Int32) (v2 : Int32) (v3 : Int32) (v4 : Int32) (t0 : Int32) (t2 : Int32) (z0 : St) (ls : Array Slot) (H : Heap) (locs : List Loc) (hP : J_M_quota_28 Q v1 v2 v3 v4 t0 t2 z0) (hl : lv_has ls 6 [(0, .ref (ha G 31)), (1, .int v1), (2, .int v2), (3, .int v3), (4, .int v4)]) (hW : Wd G z0 s.heap H locs) : W p l e rm_M_quota s m args below meth c H locs 0 0 (MQ below (QvR Q G) args s 0 0 (fr G)) (F0 m 28 ls [.int t0, .ref (ha G 34), .int t2]) := by
  obtain ⟨hx, hb, hml, hown, hr, hlk, hex, hE⟩ := id E
  refine ya_34 hx hb hE hW hP.1 d_M_quota_28 ?_
  have hP := hP.2
  refine lv_icmp_ge (tgt := 49) hx hb d_M_quota_29 rfl (fun hc => ?_) (fun hc => ?_)
  · have hP := hP.1 hc
    refine lv_iconst (v := 1) hx hb d_M_quota_49 (by decide) ?_
    refine lv_goto (tgt := 54) hx hb d_M_quota_50 rfl ?_
    exact wJ_M_quota_54 E _ _ _ _ _ _ _ _ _ hP hl hW
  · have hP := hP.2 hc
    refine lv_iload_n hx hb d_M_quota_32 rfl (lv_at hl 3 rfl) ?_
    refine lv_if_lt (tgt := 49) hx hb d_M_quota_33 rfl (fun hc => ?_) (fun hc => ?_)
    · have hP := hP.1 hc
      refine lv_iconst (v := 1) hx hb d_M_quota_49 (by decide) ?_
      refine lv_goto (tgt := 54) hx hb d_M_quota_50 rfl ?_
      exact wJ_M_quota_54 E _ _ _ _ _ _ _ _ _ hP hl hW
    · have hP := hP.2 hc
      refine lv_iload_n hx hb d_M_quota_36 rfl (lv_at hl 3 rfl) ?_
      refine lv_iload hx hb d_M_quota_37 (lv_at hl 4 rfl) ?_
      refine lv_icmp_gt (tgt := 49) hx hb d_M_quota_39 rfl (fun hc => ?_) (fun hc => ?_)
      · have hP := hP.1 hc
        refine lv_iconst (v := 1) hx hb d_M_quota_49 (by decide) ?_
        refine lv_goto (tgt := 54) hx hb d_M_quota_50 rfl ?_
        exact wJ_M_quota_54 E _ _ _ _ _ _ _ _ _ hP hl hW
      · have hP := hP.2 hc
        refine lv_iload hx hb d_M_quota_42 (lv_at hl 4 rfl) ?_
        refine lv_bipush (v := 8) hx hb d_M_quota_44 (by decide) ?_
        refine lv_icmp_le (tgt := 53) hx hb d_M_quota_46 rfl (fun hc => ?_) (fun hc => ?_)
        · have hP := hP.1 hc
          refine lv_iconst (v := 0) hx hb d_M_quota_53 (by decide) ?_
          exact wJ_M_quota_54 E _ _ _ _ _ _ _ _ _ hP hl hW
        · have hP := hP.2 hc
          refine lv_iconst (v := 1) hx hb d_M_quota_49 (by decide) ?_
          refine lv_goto (tgt := 54) hx hb d_M_quota_50 rfl ?_
          exact wJ_M_quota_54 E _ _ _ _ _ _ _ _ _ hP hl hW
set_option maxHeartbeats 4000000 in
set_option maxRecDepth 100000 in
theorem c_M_quota {l : Launch} {G : GG} (a1 : Int32) (a2 : Int32) (a3 : Int32) (a4 : Int32) (z0 : St) (Q : St → Prop) (hP : P_M_quota a1 a2 a3 a4 z0 Q) : Ctv l y_M_quota cc_M_quota 6 none rm_M_quota G [.ref (ha G 31), .int a1, .int a2, .int a3, .int a4] z0 Q := by
  refine Ctv.op (own := R_M) (by decide) rfl (Nat.le_of_ble_eq_true rfl) (fun p e s m args below meth c ls E hl hW => ?_)
  obtain ⟨hx, hb, hml, hown, hr, hlk, hex, hE⟩ := id E
  have hl : lv_has ls 6 [(0, .ref (ha G 31)), (1, .int a1), (2, .int a2), (3, .int a3), (4, .int a4)] := hl
  refine lv_iload_n hx hb d_M_quota_0 rfl (lv_at hl 1 rfl) ?_
  refine yc_i (yS (As := [.int a1]) (rest := []) E (c_M_isTrait _ _ _ hP) (cw_M_96 hE) (by decide) hW hl.1 rfl rfl rfl d_M_quota_1) hW (fun x2 z1 H locs hP hW => ?_)
  refine lv_if_eq (tgt := 49) hx hb d_M_quota_4 rfl (fun hc => ?_) (fun hc => ?_)
  · have hP := hP.1 hc
    refine lv_iconst (v := 1) hx hb d_M_quota_49 (by decide) ?_
    refine lv_goto (tgt := 54) hx hb d_M_quota_50 rfl ?_
    exact wJ_M_quota_54 E _ _ _ _ _ _ _ _ _ hP hl hW
  · have hP := hP.2 hc
    refine lv_iload_n hx hb d_M_quota_7 rfl (lv_at hl 2 rfl) ?_
    refine lv_if_lt (tgt := 49) hx hb d_M_quota_8 rfl (fun hc => ?_) (fun hc => ?_)
    · have hP := hP.1 hc
      refine lv_iconst (v := 1) hx hb d_M_quota_49 (by decide) ?_
      refine lv_goto (tgt := 54) hx hb d_M_quota_50 rfl ?_
      exact wJ_M_quota_54 E _ _ _ _ _ _ _ _ _ hP hl hW
    · have hP := hP.2 hc
      refine lv_iload_n hx hb d_M_quota_11 rfl (lv_at hl 2 rfl) ?_
      refine lv_aload_n hx hb d_M_quota_12 rfl (lv_at hl 0 rfl) ?_
      refine ygf_31_4 hx hb hown hE hW (lk_M_17 hE) d_M_quota_13 ?_
      refine lv_iload_n hx hb d_M_quota_16 rfl (lv_at hl 1 rfl) ?_
      refine yc_i (yS (As := [.int a1]) (rest := [.ref (ha G 34), .int a2]) E (c_M_isTrait _ _ _ hP) (cw_M_96 hE) (by decide) hW hl.1 rfl rfl rfl d_M_quota_17) hW (fun x8 z7 H locs hP hW => ?_)
      refine lv_if_eq (tgt := 27) hx hb d_M_quota_20 rfl (fun hc => ?_) (fun hc => ?_)
      · have hP := hP.1 hc
        refine lv_iconst (v := 0) hx hb d_M_quota_27 (by decide) ?_
        exact wJ_M_quota_28 E _ _ _ _ _ _ _ _ _ _ hP hl hW
      · have hP := hP.2 hc
        refine lv_iload_n hx hb d_M_quota_23 rfl (lv_at hl 1 rfl) ?_
        refine lv_goto (tgt := 28) hx hb d_M_quota_24 rfl ?_
        exact wJ_M_quota_28 E _ _ _ _ _ _ _ _ _ _ hP hl hW
theorem d_M_size_0 : decode cc_M_size 0 = .ok (.aload_n 0, 1) := by decide +kernel
theorem d_M_size_1 : decode cc_M_size 1 = .ok (.iload_n 1, 1) := by decide +kernel
theorem d_M_size_2 : decode cc_M_size 2 = .ok (.iconst 1, 1) := by decide +kernel
theorem d_M_size_3 : decode cc_M_size 3 = .ok (.if_icmp .lt 9, 3) := by decide +kernel
theorem d_M_size_6 : decode cc_M_size 6 = .ok (.iload_n 1, 1) := by decide +kernel
theorem d_M_size_7 : decode cc_M_size 7 = .ok (.bipush 8, 2) := by decide +kernel
theorem d_M_size_9 : decode cc_M_size 9 = .ok (.if_icmp .le 7, 3) := by decide +kernel
theorem d_M_size_12 : decode cc_M_size 12 = .ok (.iconst 1, 1) := by decide +kernel
theorem d_M_size_13 : decode cc_M_size 13 = .ok (.goto 15, 3) := by decide +kernel
theorem d_M_size_16 : decode cc_M_size 16 = .ok (.aload_n 0, 1) := by decide +kernel
theorem d_M_size_17 : decode cc_M_size 17 = .ok (.getfield 100, 3) := by decide +kernel
theorem d_M_size_20 : decode cc_M_size 20 = .ok (.ifCond .eq 7, 3) := by decide +kernel
theorem d_M_size_23 : decode cc_M_size 23 = .ok (.iconst 2, 1) := by decide +kernel
theorem d_M_size_24 : decode cc_M_size 24 = .ok (.goto 4, 3) := by decide +kernel
theorem d_M_size_27 : decode cc_M_size 27 = .ok (.iconst 0, 1) := by decide +kernel
theorem d_M_size_28 : decode cc_M_size 28 = .ok (.putfield 70, 3) := by decide +kernel
theorem d_M_size_31 : decode cc_M_size 31 = .ok (.aload_n 0, 1) := by decide +kernel
theorem d_M_size_32 : decode cc_M_size 32 = .ok (.getfield 70, 3) := by decide +kernel
theorem d_M_size_35 : decode cc_M_size 35 = .ok (.ifCond .le 4, 3) := by decide +kernel
theorem d_M_size_38 : decode cc_M_size 38 = .ok (.return_, 1) := by decide +kernel
theorem d_M_size_39 : decode cc_M_size 39 = .ok (.aload_n 0, 1) := by decide +kernel
theorem d_M_size_40 : decode cc_M_size 40 = .ok (.iload_n 1, 1) := by decide +kernel
theorem d_M_size_41 : decode cc_M_size 41 = .ok (.putfield 26, 3) := by decide +kernel
theorem d_M_size_44 : decode cc_M_size 44 = .ok (.aload_n 0, 1) := by decide +kernel
theorem d_M_size_45 : decode cc_M_size 45 = .ok (.invokevirtual 103, 3) := by decide +kernel
theorem d_M_size_48 : decode cc_M_size 48 = .ok (.return_, 1) := by decide +kernel
def J_M_size_28 (Q : St → Prop) (v1 : Int32) (t0 : Int32) (z0 : St) : Prop := ∀ z1 : St, z1 = wI z0 31 0 t0 → (((z1.1 31 0) ≤ 0) → ∀ z2 : St, z2 = wI z1 31 7 v1 → P_M_changed z2 (fun (z3 : St) => Q z3)) ∧ ((¬ (z1.1 31 0) ≤ 0) → Q z1)
def P_M_size (a1 : Int32) (z0 : St) (Q : St → Prop) : Prop := ((a1 < (1 : Int32)) → J_M_size_28 Q a1 (1 : Int32) z0) ∧ ((¬ a1 < (1 : Int32)) → ((a1 ≤ (8 : Int32)) → (((z0.1 31 19) = 0) → J_M_size_28 Q a1 (0 : Int32) z0) ∧ ((¬ (z0.1 31 19) = 0) → J_M_size_28 Q a1 (2 : Int32) z0)) ∧ ((¬ a1 ≤ (8 : Int32)) → J_M_size_28 Q a1 (1 : Int32) z0))
set_option maxHeartbeats 4000000 in
set_option maxRecDepth 100000 in
theorem wJ_M_size_28 {Q : St → Prop} (E : En p l s m meth c args cc_M_size 2 R_M none G)
    (v1 : Int32) (t0 : Int32) (z0 : St) (ls : Array Slot) (H : Heap) (locs : List Loc) (hP : J_M_size_28 Q v1 t0 z0) (hl : lv_has ls 2 [(0, .ref (ha G 31)), (1, .int v1)]) (hW : Wd G z0 s.heap H locs) : W p l e rm_M_size s m args below meth c H locs 0 0 (MQ below (QvR Q G) args s 0 0 (fr G)) (F0 m 28 ls [.int t0, .ref (ha G 31)]) := by
  obtain ⟨hx, hb, hml, hown, hr, hlk, hex, hE⟩ := id E
  refine ypf_31_0 hx hb hown hE hW (lk_M_70 hE) d_M_size_28 (fun z1 H locs e_z1 hW => ?_)
  have hP := hP z1 e_z1
  refine lv_aload_n hx hb d_M_size_31 rfl (lv_at hl 0 rfl) ?_
  refine ygf_31_0 hx hb hown hE hW (lk_M_70 hE) d_M_size_32 ?_
  refine lv_if_le (tgt := 39) hx hb d_M_size_35 rfl (fun hc => ?_) (fun hc => ?_)
  · have hP := hP.1 hc
    refine lv_aload_n hx hb d_M_size_39 rfl (lv_at hl 0 rfl) ?_
    refine lv_iload_n hx hb d_M_size_40 rfl (lv_at hl 1 rfl) ?_
    refine ypf_31_7 hx hb hown hE hW (lk_M_26 hE) d_M_size_41 (fun z2 H locs e_z2 hW => ?_)
    have hP := hP z2 e_z2
    refine lv_aload_n hx hb d_M_size_44 rfl (lv_at hl 0 rfl) ?_
    refine yc_v (yV (As := []) (rest := []) E (c_M_changed _ _ hP) (cw_M_103 hE) (yrv_31 hE hW) (by decide) hW hl.1 rfl rfl rfl d_M_size_45) hW (fun z3 H locs hP hW => ?_)
    exact yr_v hx hb hr hlk hW hP d_M_size_48
  · have hP := hP.2 hc
    exact yr_v hx hb hr hlk hW hP d_M_size_38
set_option maxHeartbeats 4000000 in
set_option maxRecDepth 100000 in
theorem c_M_size {l : Launch} {G : GG} (a1 : Int32) (z0 : St) (Q : St → Prop) (hP : P_M_size a1 z0 Q) : Ctv l y_M_size cc_M_size 2 none rm_M_size G [.ref (ha G 31), .int a1] z0 Q := by
  refine Ctv.op (own := R_M) (by decide) rfl (Nat.le_of_ble_eq_true rfl) (fun p e s m args below meth c ls E hl hW => ?_)
  obtain ⟨hx, hb, hml, hown, hr, hlk, hex, hE⟩ := id E
  have hl : lv_has ls 2 [(0, .ref (ha G 31)), (1, .int a1)] := hl
  refine lv_aload_n hx hb d_M_size_0 rfl (lv_at hl 0 rfl) ?_
  refine lv_iload_n hx hb d_M_size_1 rfl (lv_at hl 1 rfl) ?_
  refine lv_iconst (v := 1) hx hb d_M_size_2 (by decide) ?_
  refine lv_icmp_lt (tgt := 12) hx hb d_M_size_3 rfl (fun hc => ?_) (fun hc => ?_)
  · have hP := hP.1 hc
    refine lv_iconst (v := 1) hx hb d_M_size_12 (by decide) ?_
    refine lv_goto (tgt := 28) hx hb d_M_size_13 rfl ?_
    exact wJ_M_size_28 E _ _ _ _ _ _ hP hl hW
  · have hP := hP.2 hc
    refine lv_iload_n hx hb d_M_size_6 rfl (lv_at hl 1 rfl) ?_
    refine lv_bipush (v := 8) hx hb d_M_size_7 (by decide) ?_
    refine lv_icmp_le (tgt := 16) hx hb d_M_size_9 rfl (fun hc => ?_) (fun hc => ?_)
    · have hP := hP.1 hc
      refine lv_aload_n hx hb d_M_size_16 rfl (lv_at hl 0 rfl) ?_
      refine ygf_31_19 hx hb hown hE hW (lk_M_100 hE) d_M_size_17 ?_
      refine lv_if_eq (tgt := 27) hx hb d_M_size_20 rfl (fun hc => ?_) (fun hc => ?_)
      · have hP := hP.1 hc
        refine lv_iconst (v := 0) hx hb d_M_size_27 (by decide) ?_
        exact wJ_M_size_28 E _ _ _ _ _ _ hP hl hW
      · have hP := hP.2 hc
        refine lv_iconst (v := 2) hx hb d_M_size_23 (by decide) ?_
        refine lv_goto (tgt := 28) hx hb d_M_size_24 rfl ?_
        exact wJ_M_size_28 E _ _ _ _ _ _ hP hl hW
    · have hP := hP.2 hc
      refine lv_iconst (v := 1) hx hb d_M_size_12 (by decide) ?_
      refine lv_goto (tgt := 28) hx hb d_M_size_13 rfl ?_
      exact wJ_M_size_28 E _ _ _ _ _ _ hP hl hW
theorem d_M_adds_0 : decode cc_M_adds 0 = .ok (.aload_n 0, 1) := by decide +kernel
theorem d_M_adds_1 : decode cc_M_adds 1 = .ok (.getfield 30, 3) := by decide +kernel
theorem d_M_adds_4 : decode cc_M_adds 4 = .ok (.iload_n 1, 1) := by decide +kernel
theorem d_M_adds_5 : decode cc_M_adds 5 = .ok (.iaload, 1) := by decide +kernel
theorem d_M_adds_6 : decode cc_M_adds 6 = .ok (.istore_n 2, 1) := by decide +kernel
theorem d_M_adds_7 : decode cc_M_adds 7 = .ok (.lconst 1, 1) := by decide +kernel
theorem d_M_adds_8 : decode cc_M_adds 8 = .ok (.iconst 4, 1) := by decide +kernel
theorem d_M_adds_9 : decode cc_M_adds 9 = .ok (.iload_n 2, 1) := by decide +kernel
theorem d_M_adds_10 : decode cc_M_adds 10 = .ok (.bipush 16, 2) := by decide +kernel
theorem d_M_adds_12 : decode cc_M_adds 12 = .ok (.idiv, 1) := by decide +kernel
theorem d_M_adds_13 : decode cc_M_adds 13 = .ok (.imul, 1) := by decide +kernel
theorem d_M_adds_14 : decode cc_M_adds 14 = .ok (.lshl, 1) := by decide +kernel
theorem d_M_adds_15 : decode cc_M_adds 15 = .ok (.lconst 1, 1) := by decide +kernel
theorem d_M_adds_16 : decode cc_M_adds 16 = .ok (.bipush 16, 2) := by decide +kernel
theorem d_M_adds_18 : decode cc_M_adds 18 = .ok (.iconst 4, 1) := by decide +kernel
theorem d_M_adds_19 : decode cc_M_adds 19 = .ok (.iload_n 2, 1) := by decide +kernel
theorem d_M_adds_20 : decode cc_M_adds 20 = .ok (.iconst 4, 1) := by decide +kernel
theorem d_M_adds_21 : decode cc_M_adds 21 = .ok (.idiv, 1) := by decide +kernel
theorem d_M_adds_22 : decode cc_M_adds 22 = .ok (.iconst 4, 1) := by decide +kernel
theorem d_M_adds_23 : decode cc_M_adds 23 = .ok (.irem, 1) := by decide +kernel
theorem d_M_adds_24 : decode cc_M_adds 24 = .ok (.imul, 1) := by decide +kernel
theorem d_M_adds_25 : decode cc_M_adds 25 = .ok (.iadd, 1) := by decide +kernel
theorem d_M_adds_26 : decode cc_M_adds 26 = .ok (.lshl, 1) := by decide +kernel
theorem d_M_adds_27 : decode cc_M_adds 27 = .ok (.lor, 1) := by decide +kernel
theorem d_M_adds_28 : decode cc_M_adds 28 = .ok (.lconst 1, 1) := by decide +kernel
theorem d_M_adds_29 : decode cc_M_adds 29 = .ok (.bipush 32, 2) := by decide +kernel
theorem d_M_adds_31 : decode cc_M_adds 31 = .ok (.iconst 4, 1) := by decide +kernel
theorem d_M_adds_32 : decode cc_M_adds 32 = .ok (.iload_n 2, 1) := by decide +kernel
theorem d_M_adds_33 : decode cc_M_adds 33 = .ok (.iconst 4, 1) := by decide +kernel
theorem d_M_adds_34 : decode cc_M_adds 34 = .ok (.irem, 1) := by decide +kernel
theorem d_M_adds_35 : decode cc_M_adds 35 = .ok (.imul, 1) := by decide +kernel
theorem d_M_adds_36 : decode cc_M_adds 36 = .ok (.iadd, 1) := by decide +kernel
theorem d_M_adds_37 : decode cc_M_adds 37 = .ok (.lshl, 1) := by decide +kernel
theorem d_M_adds_38 : decode cc_M_adds 38 = .ok (.lor, 1) := by decide +kernel
theorem d_M_adds_39 : decode cc_M_adds 39 = .ok (.lreturn, 1) := by decide +kernel
def P_M_adds (a1 : Int32) (z0 : St) (Q : Int64 → St → Prop) : Prop := vp_in a1 17 ∧ ∀ x1 : Int32, x1 = (z0.1 37 a1.toNatClampNeg) → Q ((((1 : Int64) <<< (((4 : Int32) * (x1 / (16 : Int32))).toInt64 &&& 63)) ||| ((1 : Int64) <<< (((16 : Int32) + ((4 : Int32) * ((x1 / (4 : Int32)) - (x1 / (4 : Int32)) / (4 : Int32) * (4 : Int32)))).toInt64 &&& 63))) ||| ((1 : Int64) <<< (((32 : Int32) + ((4 : Int32) * (x1 - x1 / (4 : Int32) * (4 : Int32)))).toInt64 &&& 63))) z0
set_option maxHeartbeats 4000000 in
set_option maxRecDepth 100000 in
theorem c_M_adds {l : Launch} {G : GG} (a1 : Int32) (z0 : St) (Q : Int64 → St → Prop) (hP : P_M_adds a1 z0 Q) : Ctl l y_M_adds cc_M_adds 3 (some .long) rm_M_adds G [.ref (ha G 31), .int a1] z0 Q := by
  refine Ctl.op (own := R_M) (by decide) rfl (Nat.le_of_ble_eq_true rfl) (fun p e s m args below meth c ls E hl hW => ?_)
  obtain ⟨hx, hb, hml, hown, hr, hlk, hex, hE⟩ := id E
  have hl : lv_has ls 3 [(0, .ref (ha G 31)), (1, .int a1)] := hl
  refine lv_aload_n hx hb d_M_adds_0 rfl (lv_at hl 0 rfl) ?_
  refine ygf_31_9 hx hb hown hE hW (lk_M_30 hE) d_M_adds_1 ?_
  refine lv_iload_n hx hb d_M_adds_4 rfl (lv_at hl 1 rfl) ?_
  refine ya_37 hx hb hE hW hP.1 d_M_adds_5 ?_
  have hP := hP.2
  refine lv_topi (fun x1 e_x1 => ?_)
  have hP := hP x1 e_x1
  refine lv_istore_n (lv' := [(2, .int x1), (0, .ref (ha G 31)), (1, .int a1)]) hx hb d_M_adds_6 rfl hl (by decide) rfl (fun ls hl => ?_)
  refine lv_lconst (v := 1) hx hb d_M_adds_7 (by decide) ?_
  refine lv_iconst (v := 4) hx hb d_M_adds_8 (by decide) ?_
  refine lv_iload_n hx hb d_M_adds_9 rfl (lv_at hl 0 rfl) ?_
  refine lv_bipush (v := 16) hx hb d_M_adds_10 (by decide) ?_
  refine lv_idiv hx hb d_M_adds_12 (by decide) ?_
  refine lv_imul hx hb d_M_adds_13 ?_
  refine lv_lshl hx hb d_M_adds_14 rfl ?_
  refine lv_lconst (v := 1) hx hb d_M_adds_15 (by decide) ?_
  refine lv_bipush (v := 16) hx hb d_M_adds_16 (by decide) ?_
  refine lv_iconst (v := 4) hx hb d_M_adds_18 (by decide) ?_
  refine lv_iload_n hx hb d_M_adds_19 rfl (lv_at hl 0 rfl) ?_
  refine lv_iconst (v := 4) hx hb d_M_adds_20 (by decide) ?_
  refine lv_idiv hx hb d_M_adds_21 (by decide) ?_
  refine lv_iconst (v := 4) hx hb d_M_adds_22 (by decide) ?_
  refine lv_irem hx hb d_M_adds_23 (by decide) ?_
  refine lv_imul hx hb d_M_adds_24 ?_
  refine lv_iadd hx hb d_M_adds_25 ?_
  refine lv_lshl hx hb d_M_adds_26 rfl ?_
  refine lv_lor hx hb d_M_adds_27 ?_
  refine lv_lconst (v := 1) hx hb d_M_adds_28 (by decide) ?_
  refine lv_bipush (v := 32) hx hb d_M_adds_29 (by decide) ?_
  refine lv_iconst (v := 4) hx hb d_M_adds_31 (by decide) ?_
  refine lv_iload_n hx hb d_M_adds_32 rfl (lv_at hl 0 rfl) ?_
  refine lv_iconst (v := 4) hx hb d_M_adds_33 (by decide) ?_
  refine lv_irem hx hb d_M_adds_34 (by decide) ?_
  refine lv_imul hx hb d_M_adds_35 ?_
  refine lv_iadd hx hb d_M_adds_36 ?_
  refine lv_lshl hx hb d_M_adds_37 rfl ?_
  refine lv_lor hx hb d_M_adds_38 ?_
  exact yr_l hx hb hr hlk hW hP d_M_adds_39
theorem d_M_had_0 : decode cc_M_had 0 = .ok (.lload_n 0, 1) := by decide +kernel
theorem d_M_had_1 : decode cc_M_had 1 = .ok (.bipush 16, 2) := by decide +kernel
theorem d_M_had_3 : decode cc_M_had 3 = .ok (.iload_n 2, 1) := by decide +kernel
theorem d_M_had_4 : decode cc_M_had 4 = .ok (.imul, 1) := by decide +kernel
theorem d_M_had_5 : decode cc_M_had 5 = .ok (.iconst 4, 1) := by decide +kernel
theorem d_M_had_6 : decode cc_M_had 6 = .ok (.iload_n 3, 1) := by decide +kernel
theorem d_M_had_7 : decode cc_M_had 7 = .ok (.imul, 1) := by decide +kernel
theorem d_M_had_8 : decode cc_M_had 8 = .ok (.iadd, 1) := by decide +kernel
theorem d_M_had_9 : decode cc_M_had 9 = .ok (.lshr, 1) := by decide +kernel
theorem d_M_had_10 : decode cc_M_had 10 = .ok (.l2i, 1) := by decide +kernel
theorem d_M_had_11 : decode cc_M_had 11 = .ok (.bipush 15, 2) := by decide +kernel
theorem d_M_had_13 : decode cc_M_had 13 = .ok (.iand, 1) := by decide +kernel
theorem d_M_had_14 : decode cc_M_had 14 = .ok (.ireturn, 1) := by decide +kernel
def P_M_had (a0 : Int64) (a2 : Int32) (a3 : Int32) (z0 : St) (Q : Int32 → St → Prop) : Prop := Q (((a0 >>> ((((16 : Int32) * a2) + ((4 : Int32) * a3)).toInt64 &&& 63)).toInt32) &&& (15 : Int32)) z0
set_option maxHeartbeats 4000000 in
set_option maxRecDepth 100000 in
theorem c_M_had {l : Launch} {G : GG} (a0 : Int64) (a2 : Int32) (a3 : Int32) (z0 : St) (Q : Int32 → St → Prop) (hP : P_M_had a0 a2 a3 z0 Q) : Cti l y_M_had cc_M_had 4 (some .int) rm_M_had G [.long a0, .int a2, .int a3] z0 Q := by
  refine Cti.op (own := R_M) (by decide) rfl (Nat.le_of_ble_eq_true rfl) (fun p e s m args below meth c ls E hl hW => ?_)
  obtain ⟨hx, hb, hml, hown, hr, hlk, hex, hE⟩ := id E
  have hl : lv_has ls 4 [(0, .long a0), (2, .int a2), (3, .int a3)] := hl
  refine lv_lload_n hx hb d_M_had_0 rfl (lv_at hl 0 rfl) ?_
  refine lv_bipush (v := 16) hx hb d_M_had_1 (by decide) ?_
  refine lv_iload_n hx hb d_M_had_3 rfl (lv_at hl 1 rfl) ?_
  refine lv_imul hx hb d_M_had_4 ?_
  refine lv_iconst (v := 4) hx hb d_M_had_5 (by decide) ?_
  refine lv_iload_n hx hb d_M_had_6 rfl (lv_at hl 2 rfl) ?_
  refine lv_imul hx hb d_M_had_7 ?_
  refine lv_iadd hx hb d_M_had_8 ?_
  refine lv_lshr hx hb d_M_had_9 rfl ?_
  refine lv_l2i hx hb d_M_had_10 rfl ?_
  refine lv_bipush (v := 15) hx hb d_M_had_11 (by decide) ?_
  refine lv_iand hx hb d_M_had_13 ?_
  exact yr_i hx hb hr hlk hW hP d_M_had_14
theorem d_M_all_0 : decode cc_M_all 0 = .ok (.lload_n 0, 1) := by decide +kernel
theorem d_M_all_1 : decode cc_M_all 1 = .ok (.iconst 0, 1) := by decide +kernel
theorem d_M_all_2 : decode cc_M_all 2 = .ok (.iconst 0, 1) := by decide +kernel
theorem d_M_all_3 : decode cc_M_all 3 = .ok (.invokestatic 112, 3) := by decide +kernel
theorem d_M_all_6 : decode cc_M_all 6 = .ok (.lload_n 0, 1) := by decide +kernel
theorem d_M_all_7 : decode cc_M_all 7 = .ok (.iconst 0, 1) := by decide +kernel
theorem d_M_all_8 : decode cc_M_all 8 = .ok (.iconst 1, 1) := by decide +kernel
theorem d_M_all_9 : decode cc_M_all 9 = .ok (.invokestatic 112, 3) := by decide +kernel
theorem d_M_all_12 : decode cc_M_all 12 = .ok (.iadd, 1) := by decide +kernel
theorem d_M_all_13 : decode cc_M_all 13 = .ok (.lload_n 0, 1) := by decide +kernel
theorem d_M_all_14 : decode cc_M_all 14 = .ok (.iconst 0, 1) := by decide +kernel
theorem d_M_all_15 : decode cc_M_all 15 = .ok (.iconst 2, 1) := by decide +kernel
theorem d_M_all_16 : decode cc_M_all 16 = .ok (.invokestatic 112, 3) := by decide +kernel
theorem d_M_all_19 : decode cc_M_all 19 = .ok (.iadd, 1) := by decide +kernel
theorem d_M_all_20 : decode cc_M_all 20 = .ok (.lload_n 0, 1) := by decide +kernel
theorem d_M_all_21 : decode cc_M_all 21 = .ok (.iconst 0, 1) := by decide +kernel
theorem d_M_all_22 : decode cc_M_all 22 = .ok (.iconst 3, 1) := by decide +kernel
theorem d_M_all_23 : decode cc_M_all 23 = .ok (.invokestatic 112, 3) := by decide +kernel
theorem d_M_all_26 : decode cc_M_all 26 = .ok (.iadd, 1) := by decide +kernel
theorem d_M_all_27 : decode cc_M_all 27 = .ok (.ireturn, 1) := by decide +kernel
def P_M_all (a0 : Int64) (z0 : St) (Q : Int32 → St → Prop) : Prop := P_M_had a0 (0 : Int32) (0 : Int32) z0 (fun (x2 : Int32) (z1 : St) => P_M_had a0 (0 : Int32) (1 : Int32) z1 (fun (x4 : Int32) (z3 : St) => P_M_had a0 (0 : Int32) (2 : Int32) z3 (fun (x6 : Int32) (z5 : St) => P_M_had a0 (0 : Int32) (3 : Int32) z5 (fun (x8 : Int32) (z7 : St) => Q (((x2 + x4) + x6) + x8) z7))))
set_option maxHeartbeats 4000000 in
set_option maxRecDepth 100000 in
theorem c_M_all {l : Launch} {G : GG} (a0 : Int64) (z0 : St) (Q : Int32 → St → Prop) (hP : P_M_all a0 z0 Q) : Cti l y_M_all cc_M_all 2 (some .int) rm_M_all G [.long a0] z0 Q := by
  refine Cti.op (own := R_M) (by decide) rfl (Nat.le_of_ble_eq_true rfl) (fun p e s m args below meth c ls E hl hW => ?_)
  obtain ⟨hx, hb, hml, hown, hr, hlk, hex, hE⟩ := id E
  have hl : lv_has ls 2 [(0, .long a0)] := hl
  refine lv_lload_n hx hb d_M_all_0 rfl (lv_at hl 0 rfl) ?_
  refine lv_iconst (v := 0) hx hb d_M_all_1 (by decide) ?_
  refine lv_iconst (v := 0) hx hb d_M_all_2 (by decide) ?_
  refine yc_i (yS (As := [.long a0, .int (0 : Int32), .int (0 : Int32)]) (rest := []) E (c_M_had _ _ _ _ _ hP) (cw_M_112 hE) (by decide) hW hl.1 rfl rfl rfl d_M_all_3) hW (fun x2 z1 H locs hP hW => ?_)
  refine lv_lload_n hx hb d_M_all_6 rfl (lv_at hl 0 rfl) ?_
  refine lv_iconst (v := 0) hx hb d_M_all_7 (by decide) ?_
  refine lv_iconst (v := 1) hx hb d_M_all_8 (by decide) ?_
  refine yc_i (yS (As := [.long a0, .int (0 : Int32), .int (1 : Int32)]) (rest := [.int x2]) E (c_M_had _ _ _ _ _ hP) (cw_M_112 hE) (by decide) hW hl.1 rfl rfl rfl d_M_all_9) hW (fun x4 z3 H locs hP hW => ?_)
  refine lv_iadd hx hb d_M_all_12 ?_
  refine lv_lload_n hx hb d_M_all_13 rfl (lv_at hl 0 rfl) ?_
  refine lv_iconst (v := 0) hx hb d_M_all_14 (by decide) ?_
  refine lv_iconst (v := 2) hx hb d_M_all_15 (by decide) ?_
  refine yc_i (yS (As := [.long a0, .int (0 : Int32), .int (2 : Int32)]) (rest := [.int (x2 + x4)]) E (c_M_had _ _ _ _ _ hP) (cw_M_112 hE) (by decide) hW hl.1 rfl rfl rfl d_M_all_16) hW (fun x6 z5 H locs hP hW => ?_)
  refine lv_iadd hx hb d_M_all_19 ?_
  refine lv_lload_n hx hb d_M_all_20 rfl (lv_at hl 0 rfl) ?_
  refine lv_iconst (v := 0) hx hb d_M_all_21 (by decide) ?_
  refine lv_iconst (v := 3) hx hb d_M_all_22 (by decide) ?_
  refine yc_i (yS (As := [.long a0, .int (0 : Int32), .int (3 : Int32)]) (rest := [.int ((x2 + x4) + x6)]) E (c_M_had _ _ _ _ _ hP) (cw_M_112 hE) (by decide) hW hl.1 rfl rfl rfl d_M_all_23) hW (fun x8 z7 H locs hP hW => ?_)
  refine lv_iadd hx hb d_M_all_26 ?_
  exact yr_i hx hb hr hlk hW hP d_M_all_27
end Code
