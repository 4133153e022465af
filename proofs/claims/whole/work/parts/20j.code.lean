/-! M_blocked, M_personOf, M_rows, M_take, M_panel, M_mark, M_index -/
section Code
variable {p : Program} {l : Launch} {e : Env} {s : State} {m : MethodId} {args : Array Value} {below : List Frame} {meth : Method} {c : Code} {G : GG}
theorem d_M_blocked_0 : decode cc_M_blocked 0 = .ok (.aload_n 0, 1) := by decide +kernel
theorem d_M_blocked_1 : decode cc_M_blocked 1 = .ok (.iload_n 1, 1) := by decide +kernel
theorem d_M_blocked_2 : decode cc_M_blocked 2 = .ok (.ifCond .ge 7, 3) := by decide +kernel
theorem d_M_blocked_5 : decode cc_M_blocked 5 = .ok (.iconst 1, 1) := by decide +kernel
theorem d_M_blocked_6 : decode cc_M_blocked 6 = .ok (.goto 15, 3) := by decide +kernel
theorem d_M_blocked_9 : decode cc_M_blocked 9 = .ok (.aload_n 0, 1) := by decide +kernel
theorem d_M_blocked_10 : decode cc_M_blocked 10 = .ok (.invokevirtual 155, 3) := by decide +kernel
theorem d_M_blocked_13 : decode cc_M_blocked 13 = .ok (.ifCond .ne 7, 3) := by decide +kernel
theorem d_M_blocked_16 : decode cc_M_blocked 16 = .ok (.iconst 2, 1) := by decide +kernel
theorem d_M_blocked_17 : decode cc_M_blocked 17 = .ok (.goto 4, 3) := by decide +kernel
theorem d_M_blocked_20 : decode cc_M_blocked 20 = .ok (.iconst 0, 1) := by decide +kernel
theorem d_M_blocked_21 : decode cc_M_blocked 21 = .ok (.putfield 70, 3) := by decide +kernel
theorem d_M_blocked_24 : decode cc_M_blocked 24 = .ok (.aload_n 0, 1) := by decide +kernel
theorem d_M_blocked_25 : decode cc_M_blocked 25 = .ok (.getfield 70, 3) := by decide +kernel
theorem d_M_blocked_28 : decode cc_M_blocked 28 = .ok (.ifCond .le 5, 3) := by decide +kernel
theorem d_M_blocked_31 : decode cc_M_blocked 31 = .ok (.iconst 0, 1) := by decide +kernel
theorem d_M_blocked_32 : decode cc_M_blocked 32 = .ok (.ireturn, 1) := by decide +kernel
theorem d_M_blocked_33 : decode cc_M_blocked 33 = .ok (.aload_n 0, 1) := by decide +kernel
theorem d_M_blocked_34 : decode cc_M_blocked 34 = .ok (.getfield 43, 3) := by decide +kernel
theorem d_M_blocked_37 : decode cc_M_blocked 37 = .ok (.iconst 0, 1) := by decide +kernel
theorem d_M_blocked_38 : decode cc_M_blocked 38 = .ok (.laload, 1) := by decide +kernel
theorem d_M_blocked_39 : decode cc_M_blocked 39 = .ok (.lconst 0, 1) := by decide +kernel
theorem d_M_blocked_40 : decode cc_M_blocked 40 = .ok (.lcmp, 1) := by decide +kernel
theorem d_M_blocked_41 : decode cc_M_blocked 41 = .ok (.ifCond .le 5, 3) := by decide +kernel
theorem d_M_blocked_44 : decode cc_M_blocked 44 = .ok (.iconst (-1), 1) := by decide +kernel
theorem d_M_blocked_45 : decode cc_M_blocked 45 = .ok (.ireturn, 1) := by decide +kernel
theorem d_M_blocked_46 : decode cc_M_blocked 46 = .ok (.iconst 0, 1) := by decide +kernel
theorem d_M_blocked_47 : decode cc_M_blocked 47 = .ok (.istore_n 2, 1) := by decide +kernel
theorem d_M_blocked_48 : decode cc_M_blocked 48 = .ok (.iload_n 2, 1) := by decide +kernel
theorem d_M_blocked_49 : decode cc_M_blocked 49 = .ok (.bipush 12, 2) := by decide +kernel
theorem d_M_blocked_51 : decode cc_M_blocked 51 = .ok (.if_icmp .ge 33, 3) := by decide +kernel
theorem d_M_blocked_54 : decode cc_M_blocked 54 = .ok (.aload_n 0, 1) := by decide +kernel
theorem d_M_blocked_55 : decode cc_M_blocked 55 = .ok (.getfield 61, 3) := by decide +kernel
theorem d_M_blocked_58 : decode cc_M_blocked 58 = .ok (.iload_n 2, 1) := by decide +kernel
theorem d_M_blocked_59 : decode cc_M_blocked 59 = .ok (.aload_n 0, 1) := by decide +kernel
theorem d_M_blocked_60 : decode cc_M_blocked 60 = .ok (.getfield 20, 3) := by decide +kernel
theorem d_M_blocked_63 : decode cc_M_blocked 63 = .ok (.iload_n 2, 1) := by decide +kernel
theorem d_M_blocked_64 : decode cc_M_blocked 64 = .ok (.iaload, 1) := by decide +kernel
theorem d_M_blocked_65 : decode cc_M_blocked 65 = .ok (.iastore, 1) := by decide +kernel
theorem d_M_blocked_66 : decode cc_M_blocked 66 = .ok (.aload_n 0, 1) := by decide +kernel
theorem d_M_blocked_67 : decode cc_M_blocked 67 = .ok (.getfield 64, 3) := by decide +kernel
theorem d_M_blocked_70 : decode cc_M_blocked 70 = .ok (.iload_n 2, 1) := by decide +kernel
theorem d_M_blocked_71 : decode cc_M_blocked 71 = .ok (.aload_n 0, 1) := by decide +kernel
theorem d_M_blocked_72 : decode cc_M_blocked 72 = .ok (.getfield 23, 3) := by decide +kernel
theorem d_M_blocked_75 : decode cc_M_blocked 75 = .ok (.iload_n 2, 1) := by decide +kernel
theorem d_M_blocked_76 : decode cc_M_blocked 76 = .ok (.iaload, 1) := by decide +kernel
theorem d_M_blocked_77 : decode cc_M_blocked 77 = .ok (.iastore, 1) := by decide +kernel
theorem d_M_blocked_78 : decode cc_M_blocked 78 = .ok (.iinc 2 1, 3) := by decide +kernel
theorem d_M_blocked_81 : decode cc_M_blocked 81 = .ok (.goto (-33), 3) := by decide +kernel
theorem d_M_blocked_84 : decode cc_M_blocked 84 = .ok (.aload_n 0, 1) := by decide +kernel
theorem d_M_blocked_85 : decode cc_M_blocked 85 = .ok (.iload_n 1, 1) := by decide +kernel
theorem d_M_blocked_86 : decode cc_M_blocked 86 = .ok (.invokevirtual 164, 3) := by decide +kernel
theorem d_M_blocked_89 : decode cc_M_blocked 89 = .ok (.istore_n 2, 1) := by decide +kernel
theorem d_M_blocked_90 : decode cc_M_blocked 90 = .ok (.iconst 0, 1) := by decide +kernel
theorem d_M_blocked_91 : decode cc_M_blocked 91 = .ok (.istore_n 3, 1) := by decide +kernel
theorem d_M_blocked_92 : decode cc_M_blocked 92 = .ok (.iload_n 3, 1) := by decide +kernel
theorem d_M_blocked_93 : decode cc_M_blocked 93 = .ok (.bipush 12, 2) := by decide +kernel
theorem d_M_blocked_95 : decode cc_M_blocked 95 = .ok (.if_icmp .ge 33, 3) := by decide +kernel
theorem d_M_blocked_98 : decode cc_M_blocked 98 = .ok (.aload_n 0, 1) := by decide +kernel
theorem d_M_blocked_99 : decode cc_M_blocked 99 = .ok (.getfield 20, 3) := by decide +kernel
theorem d_M_blocked_102 : decode cc_M_blocked 102 = .ok (.iload_n 3, 1) := by decide +kernel
theorem d_M_blocked_103 : decode cc_M_blocked 103 = .ok (.aload_n 0, 1) := by decide +kernel
theorem d_M_blocked_104 : decode cc_M_blocked 104 = .ok (.getfield 61, 3) := by decide +kernel
theorem d_M_blocked_107 : decode cc_M_blocked 107 = .ok (.iload_n 3, 1) := by decide +kernel
theorem d_M_blocked_108 : decode cc_M_blocked 108 = .ok (.iaload, 1) := by decide +kernel
theorem d_M_blocked_109 : decode cc_M_blocked 109 = .ok (.iastore, 1) := by decide +kernel
theorem d_M_blocked_110 : decode cc_M_blocked 110 = .ok (.aload_n 0, 1) := by decide +kernel
theorem d_M_blocked_111 : decode cc_M_blocked 111 = .ok (.getfield 23, 3) := by decide +kernel
theorem d_M_blocked_114 : decode cc_M_blocked 114 = .ok (.iload_n 3, 1) := by decide +kernel
theorem d_M_blocked_115 : decode cc_M_blocked 115 = .ok (.aload_n 0, 1) := by decide +kernel
theorem d_M_blocked_116 : decode cc_M_blocked 116 = .ok (.getfield 64, 3) := by decide +kernel
theorem d_M_blocked_119 : decode cc_M_blocked 119 = .ok (.iload_n 3, 1) := by decide +kernel
theorem d_M_blocked_120 : decode cc_M_blocked 120 = .ok (.iaload, 1) := by decide +kernel
theorem d_M_blocked_121 : decode cc_M_blocked 121 = .ok (.iastore, 1) := by decide +kernel
theorem d_M_blocked_122 : decode cc_M_blocked 122 = .ok (.iinc 3 1, 3) := by decide +kernel
theorem d_M_blocked_125 : decode cc_M_blocked 125 = .ok (.goto (-33), 3) := by decide +kernel
theorem d_M_blocked_128 : decode cc_M_blocked 128 = .ok (.aload_n 0, 1) := by decide +kernel
theorem d_M_blocked_129 : decode cc_M_blocked 129 = .ok (.iconst 0, 1) := by decide +kernel
theorem d_M_blocked_130 : decode cc_M_blocked 130 = .ok (.putfield 83, 3) := by decide +kernel
theorem d_M_blocked_133 : decode cc_M_blocked 133 = .ok (.aload_n 0, 1) := by decide +kernel
theorem d_M_blocked_134 : decode cc_M_blocked 134 = .ok (.getfield 70, 3) := by decide +kernel
theorem d_M_blocked_137 : decode cc_M_blocked 137 = .ok (.ifCond .le 7, 3) := by decide +kernel
theorem d_M_blocked_140 : decode cc_M_blocked 140 = .ok (.iconst 0, 1) := by decide +kernel
theorem d_M_blocked_141 : decode cc_M_blocked 141 = .ok (.goto 4, 3) := by decide +kernel
theorem d_M_blocked_144 : decode cc_M_blocked 144 = .ok (.iload_n 2, 1) := by decide +kernel
theorem d_M_blocked_145 : decode cc_M_blocked 145 = .ok (.ireturn, 1) := by decide +kernel
def L_M_blocked_48 (K84 : Int32 → St → Prop) (Q : Int32 → St → Prop) : Nat → Int32 → Int32 → St → Prop
  | 0, _, _, _ => False
  | n + 1, v1, v2, z0 => (((12 : Int32) ≤ v2) → K84 v1 z0) ∧ ((¬ (12 : Int32) ≤ v2) → vp_in v2 12 ∧ vp_in v2 12 ∧ ∀ z4 : St, z4 = wI z0 46 v2.toNatClampNeg (z0.1 35 v2.toNatClampNeg) → vp_in v2 12 ∧ vp_in v2 12 ∧ ∀ z5 : St, z5 = wI z4 47 v2.toNatClampNeg (z4.1 36 v2.toNatClampNeg) → ∀ x6 : Int32, x6 = v2 + 1 → L_M_blocked_48 K84 Q n v1 x6 z5)
def L_M_blocked_92 (K128 : Int32 → St → Prop) (Q : Int32 → St → Prop) : Nat → Int32 → Int32 → St → Prop
  | 0, _, _, _ => False
  | n + 1, v2, v3, z0 => (((12 : Int32) ≤ v3) → K128 v2 z0) ∧ ((¬ (12 : Int32) ≤ v3) → vp_in v3 12 ∧ vp_in v3 12 ∧ ∀ z11 : St, z11 = wI z0 35 v3.toNatClampNeg (z0.1 46 v3.toNatClampNeg) → vp_in v3 12 ∧ vp_in v3 12 ∧ ∀ z12 : St, z12 = wI z11 36 v3.toNatClampNeg (z11.1 47 v3.toNatClampNeg) → ∀ x13 : Int32, x13 = v3 + 1 → L_M_blocked_92 K128 Q n v2 x13 z12)
def J_M_blocked_21 (Q : Int32 → St → Prop) (v1 : Int32) (t0 : Int32) (z0 : St) : Prop := ∀ z3 : St, z3 = wI z0 31 0 t0 → (((z3.1 31 0) ≤ 0) → vp_in (0 : Int32) 1010 ∧ (((z3.2 41 (0 : Int32).toNatClampNeg) ≤ (0 : Int64)) → ∃ k48 : Nat, L_M_blocked_48 (fun (x7 : Int32) (z8 : St) => P_M_left x7 z8 (fun (x10 : Int32) (z9 : St) => ∃ k92 : Nat, L_M_blocked_92 (fun (x14 : Int32) (z15 : St) => ∀ z16 : St, z16 = wI z15 31 11 (0 : Int32) → (((z16.1 31 0) ≤ 0) → Q x14 z16) ∧ ((¬ (z16.1 31 0) ≤ 0) → Q (0 : Int32) z16)) Q k92 x10 (0 : Int32) z9)) Q k48 v1 (0 : Int32) z3) ∧ ((¬ (z3.2 41 (0 : Int32).toNatClampNeg) ≤ (0 : Int64)) → Q (-1 : Int32) z3)) ∧ ((¬ (z3.1 31 0) ≤ 0) → Q (0 : Int32) z3)
def P_M_blocked (a1 : Int32) (z0 : St) (Q : Int32 → St → Prop) : Prop := ((0 ≤ a1) → P_M_counts z0 (fun (x2 : Int32) (z1 : St) => ((¬ x2 = 0) → J_M_blocked_21 Q a1 (0 : Int32) z1) ∧ ((x2 = 0) → J_M_blocked_21 Q a1 (2 : Int32) z1))) ∧ ((¬ 0 ≤ a1) → J_M_blocked_21 Q a1 (1 : Int32) z0)
set_option maxHeartbeats 4000000 in
set_option maxRecDepth 100000 in
theorem wL_M_blocked_48 {K84 : Int32 → St → Prop} {Q : Int32 → St → Prop} (E : En p l s m meth c args cc_M_blocked 4 R_M (some .int) G)
    (hK84 : ∀ (v1 : Int32) (z0 : St) (ls : Array Slot) (H : Heap) (locs : List Loc), K84 v1 z0 → lv_has ls 4 [(0, .ref (ha G 31)), (1, .int v1)] → Wd G z0 s.heap H locs → W p l e rm_M_blocked s m args below meth c H locs 0 0 (MQ below (QiR Q G) args s 0 0 (fr G)) (F0 m 84 ls [])) :
    ∀ (n : Nat) (v1 : Int32) (v2 : Int32) (z0 : St) (ls : Array Slot) (H : Heap) (locs : List Loc), L_M_blocked_48 K84 Q n v1 v2 z0 → lv_has ls 4 [(0, .ref (ha G 31)), (1, .int v1), (2, .int v2)] → Wd G z0 s.heap H locs → W p l e rm_M_blocked s m args below meth c H locs 0 0 (MQ below (QiR Q G) args s 0 0 (fr G)) (F0 m 48 ls []) := by
  obtain ⟨hx, hb, hml, hown, hr, hlk, hex, hE⟩ := id E
  intro n
  induction n with
  | zero => exact fun _ _ _ _ _ _ hP _ _ => hP.elim
  | succ n ih =>
    intro v1 v2 z0 ls H locs hP hl hW
    refine lv_iload_n hx hb d_M_blocked_48 rfl (lv_at hl 2 rfl) ?_
    refine lv_bipush (v := 12) hx hb d_M_blocked_49 (by decide) ?_
    refine lv_icmp_ge (tgt := 84) hx hb d_M_blocked_51 rfl (fun hc => ?_) (fun hc => ?_)
    · have hP := hP.1 hc
      exact hK84 _ _ _ _ _ hP (lv_sub hl [0, 1] rfl) hW
    · have hP := hP.2 hc
      refine lv_aload_n hx hb d_M_blocked_54 rfl (lv_at hl 0 rfl) ?_
      refine ygf_31_31 hx hb hown hE hW (lk_M_61 hE) d_M_blocked_55 ?_
      refine lv_iload_n hx hb d_M_blocked_58 rfl (lv_at hl 2 rfl) ?_
      refine lv_aload_n hx hb d_M_blocked_59 rfl (lv_at hl 0 rfl) ?_
      refine ygf_31_5 hx hb hown hE hW (lk_M_20 hE) d_M_blocked_60 ?_
      refine lv_iload_n hx hb d_M_blocked_63 rfl (lv_at hl 2 rfl) ?_
      refine ya_35 hx hb hE hW hP.1 d_M_blocked_64 ?_
      have hP := hP.2
      refine ys_46 hx hb hE hW hP.1 d_M_blocked_65 (fun z4 H locs e_z4 hW => ?_)
      have hP := hP.2
      have hP := hP z4 e_z4
      refine lv_aload_n hx hb d_M_blocked_66 rfl (lv_at hl 0 rfl) ?_
      refine ygf_31_32 hx hb hown hE hW (lk_M_64 hE) d_M_blocked_67 ?_
      refine lv_iload_n hx hb d_M_blocked_70 rfl (lv_at hl 2 rfl) ?_
      refine lv_aload_n hx hb d_M_blocked_71 rfl (lv_at hl 0 rfl) ?_
      refine ygf_31_6 hx hb hown hE hW (lk_M_23 hE) d_M_blocked_72 ?_
      refine lv_iload_n hx hb d_M_blocked_75 rfl (lv_at hl 2 rfl) ?_
      refine ya_36 hx hb hE hW hP.1 d_M_blocked_76 ?_
      have hP := hP.2
      refine ys_47 hx hb hE hW hP.1 d_M_blocked_77 (fun z5 H locs e_z5 hW => ?_)
      have hP := hP.2
      have hP := hP z5 e_z5
      obtain ⟨x6, e_x6⟩ : ∃ z : Int32, z = v2 + 1 := ⟨_, rfl⟩
      have hP := hP x6 e_x6
      refine lv_iinc (k := 2) (lv' := [(2, .int x6), (0, .ref (ha G 31)), (1, .int v1)]) hx hb d_M_blocked_78 hl rfl (ii_p1 e_x6) (by decide) rfl (fun ls hl => ?_)
      refine lv_goto (tgt := 48) hx hb d_M_blocked_81 rfl ?_
      exact ih _ _ _ _ _ _ hP (lv_sub hl [1, 2, 0] rfl) hW
set_option maxHeartbeats 4000000 in
set_option maxRecDepth 100000 in
theorem wL_M_blocked_92 {K128 : Int32 → St → Prop} {Q : Int32 → St → Prop} (E : En p l s m meth c args cc_M_blocked 4 R_M (some .int) G)
    (hK128 : ∀ (v2 : Int32) (z0 : St) (ls : Array Slot) (H : Heap) (locs : List Loc), K128 v2 z0 → lv_has ls 4 [(0, .ref (ha G 31)), (2, .int v2)] → Wd G z0 s.heap H locs → W p l e rm_M_blocked s m args below meth c H locs 0 0 (MQ below (QiR Q G) args s 0 0 (fr G)) (F0 m 128 ls [])) :
    ∀ (n : Nat) (v2 : Int32) (v3 : Int32) (z0 : St) (ls : Array Slot) (H : Heap) (locs : List Loc), L_M_blocked_92 K128 Q n v2 v3 z0 → lv_has ls 4 [(0, .ref (ha G 31)), (2, .int v2), (3, .int v3)] → Wd G z0 s.heap H locs → W p l e rm_M_blocked s m args below meth c H locs 0 0 (MQ below (QiR Q G) args s 0 0 (fr G)) (F0 m 92 ls []) := by
  obtain ⟨hx, hb, hml, hown, hr, hlk, hex, hE⟩ := id E
  intro n
  induction n with
  | zero => exact fun _ _ _ _ _ _ hP _ _ => hP.elim
  | succ n ih =>
    intro v2 v3 z0 ls H locs hP hl hW
    refine lv_iload_n hx hb d_M_blocked_92 rfl (lv_at hl 2 rfl) ?_
    refine lv_bipush (v := 12) hx hb d_M_blocked_93 (by decide) ?_
    refine lv_icmp_ge (tgt := 128) hx hb d_M_blocked_95 rfl (fun hc => ?_) (fun hc => ?_)
    · have hP := hP.1 hc
      exact hK128 _ _ _ _ _ hP (lv_sub hl [0, 1] rfl) hW
    · have hP := hP.2 hc
      refine lv_aload_n hx hb d_M_blocked_98 rfl (lv_at hl 0 rfl) ?_
      refine ygf_31_5 hx hb hown hE hW (lk_M_20 hE) d_M_blocked_99 ?_
      refine lv_iload_n hx hb d_M_blocked_102 rfl (lv_at hl 2 rfl) ?_
      refine lv_aload_n hx hb d_M_blocked_103 rfl (lv_at hl 0 rfl) ?_
      refine ygf_31_31 hx hb hown hE hW (lk_M_61 hE) d_M_blocked_104 ?_
      refine lv_iload_n hx hb d_M_blocked_107 rfl (lv_at hl 2 rfl) ?_
      refine ya_46 hx hb hE hW hP.1 d_M_blocked_108 ?_
      have hP := hP.2
      refine ys_35 hx hb hE hW hP.1 d_M_blocked_109 (fun z11 H locs e_z11 hW => ?_)
      have hP := hP.2
      have hP := hP z11 e_z11
      refine lv_aload_n hx hb d_M_blocked_110 rfl (lv_at hl 0 rfl) ?_
      refine ygf_31_6 hx hb hown hE hW (lk_M_23 hE) d_M_blocked_111 ?_
      refine lv_iload_n hx hb d_M_blocked_114 rfl (lv_at hl 2 rfl) ?_
      refine lv_aload_n hx hb d_M_blocked_115 rfl (lv_at hl 0 rfl) ?_
      refine ygf_31_32 hx hb hown hE hW (lk_M_64 hE) d_M_blocked_116 ?_
      refine lv_iload_n hx hb d_M_blocked_119 rfl (lv_at hl 2 rfl) ?_
      refine ya_47 hx hb hE hW hP.1 d_M_blocked_120 ?_
      have hP := hP.2
      refine ys_36 hx hb hE hW hP.1 d_M_blocked_121 (fun z12 H locs e_z12 hW => ?_)
      have hP := hP.2
      have hP := hP z12 e_z12
      obtain ⟨x13, e_x13⟩ : ∃ z : Int32, z = v3 + 1 := ⟨_, rfl⟩
      have hP := hP x13 e_x13
      refine lv_iinc (k := 2) (lv' := [(3, .int x13), (0, .ref (ha G 31)), (2, .int v2)]) hx hb d_M_blocked_122 hl rfl (ii_p1 e_x13) (by decide) rfl (fun ls hl => ?_)
      refine lv_goto (tgt := 92) hx hb d_M_blocked_125 rfl ?_
      exact ih _ _ _ _ _ _ hP (lv_sub hl [1, 2, 0] rfl) hW
set_option maxHeartbeats 4000000 in
set_option maxRecDepth 100000 in
theorem wJ_M_blocked_21 {Q : Int32 → St → Prop} (E : En p l s m meth c args cc_M_blocked 4 R_M (some .int) G)
    (v1 : Int32) (t0 : Int32) (z0 : St) (ls : Array Slot) (H : Heap) (locs : List Loc) (hP : J_M_blocked_21 Q v1 t0 z0) (hl : lv_has ls 4 [(0, .ref (ha G 31)), (1, .int v1)]) (hW : Wd G z0 s.heap H locs) : W p l e rm_M_blocked s m args below meth c H locs 0 0 (MQ below (QiR Q G) args s 0 0 (fr G)) (F0 m 21 ls [.int t0, .ref (ha G 31)]) := by
  obtain ⟨hx, hb, hml, hown, hr, hlk, hex, hE⟩ := id E
  refine ypf_31_0 hx hb hown hE hW (lk_M_70 hE) d_M_blocked_21 (fun z3 H locs e_z3 hW => ?_)
  have hP := hP z3 e_z3
  refine lv_aload_n hx hb d_M_blocked_24 rfl (lv_at hl 0 rfl) ?_
  refine ygf_31_0 hx hb hown hE hW (lk_M_70 hE) d_M_blocked_25 ?_
  refine lv_if_le (tgt := 33) hx hb d_M_blocked_28 rfl (fun hc => ?_) (fun hc => ?_)
  · have hP := hP.1 hc
    refine lv_aload_n hx hb d_M_blocked_33 rfl (lv_at hl 0 rfl) ?_
    refine ygf_31_16 hx hb hown hE hW (lk_M_43 hE) d_M_blocked_34 ?_
    refine lv_iconst (v := 0) hx hb d_M_blocked_37 (by decide) ?_
    refine ya_41 hx hb hE hW hP.1 d_M_blocked_38 ?_
    have hP := hP.2
    refine lv_lconst (v := 0) hx hb d_M_blocked_39 (by decide) ?_
    refine W.lcmp hx hb d_M_blocked_40 ?_
    refine lv_if_le (tgt := 46) hx hb d_M_blocked_41 rfl (fun hc => ?_) (fun hc => ?_)
    · have hP := hP.1 (lgc_let hc)
      refine lv_iconst (v := 0) hx hb d_M_blocked_46 (by decide) ?_
      refine lv_istore_n (lv' := [(2, .int (0 : Int32)), (0, .ref (ha G 31)), (1, .int v1)]) hx hb d_M_blocked_47 rfl hl (by decide) rfl (fun ls hl => ?_)
      obtain ⟨n2, hP⟩ := hP
      refine wL_M_blocked_48 E ?_ n2 _ _ _ _ _ _ hP (lv_sub hl [1, 2, 0] rfl) hW
      · intro x7 z8 ls H locs hP hl hW
        refine lv_aload_n hx hb d_M_blocked_84 rfl (lv_at hl 0 rfl) ?_
        refine lv_iload_n hx hb d_M_blocked_85 rfl (lv_at hl 1 rfl) ?_
        refine yc_i (yV (As := [.int x7]) (rest := []) E (c_M_left _ _ _ hP) (cw_M_164 hE) (yrv_31 hE hW) (by decide) hW hl.1 rfl rfl rfl d_M_blocked_86) hW (fun x10 z9 H locs hP hW => ?_)
        refine lv_istore_n (lv' := [(2, .int x10), (0, .ref (ha G 31)), (1, .int x7)]) hx hb d_M_blocked_89 rfl hl (by decide) rfl (fun ls hl => ?_)
        refine lv_iconst (v := 0) hx hb d_M_blocked_90 (by decide) ?_
        refine lv_istore_n (lv' := [(3, .int (0 : Int32)), (2, .int x10), (0, .ref (ha G 31)), (1, .int x7)]) hx hb d_M_blocked_91 rfl hl (by decide) rfl (fun ls hl => ?_)
        obtain ⟨n2, hP⟩ := hP
        refine wL_M_blocked_92 E ?_ n2 _ _ _ _ _ _ hP (lv_sub hl [2, 1, 0] rfl) hW
        · intro x14 z15 ls H locs hP hl hW
          refine lv_aload_n hx hb d_M_blocked_128 rfl (lv_at hl 0 rfl) ?_
          refine lv_iconst (v := 0) hx hb d_M_blocked_129 (by decide) ?_
          refine ypf_31_11 hx hb hown hE hW zb_0 (lk_M_83 hE) d_M_blocked_130 (fun z16 H locs e_z16 hW => ?_)
          have hP := hP z16 e_z16
          refine lv_aload_n hx hb d_M_blocked_133 rfl (lv_at hl 0 rfl) ?_
          refine ygf_31_0 hx hb hown hE hW (lk_M_70 hE) d_M_blocked_134 ?_
          refine lv_if_le (tgt := 144) hx hb d_M_blocked_137 rfl (fun hc => ?_) (fun hc => ?_)
          · have hP := hP.1 hc
            refine lv_iload_n hx hb d_M_blocked_144 rfl (lv_at hl 1 rfl) ?_
            exact yr_i hx hb hr hlk hW hP d_M_blocked_145
          · have hP := hP.2 hc
            refine lv_iconst (v := 0) hx hb d_M_blocked_140 (by decide) ?_
            refine lv_goto (tgt := 145) hx hb d_M_blocked_141 rfl ?_
            exact yr_i hx hb hr hlk hW hP d_M_blocked_145
    · have hP := hP.2 (lgc_lef hc)
      refine lv_iconst (v := -1) hx hb d_M_blocked_44 (by decide) ?_
      exact yr_i hx hb hr hlk hW hP d_M_blocked_45
  · have hP := hP.2 hc
    refine lv_iconst (v := 0) hx hb d_M_blocked_31 (by decide) ?_
    exact yr_i hx hb hr hlk hW hP d_M_blocked_32
set_option maxHeartbeats 4000000 in
set_option maxRecDepth 100000 in
theorem c_M_blocked {l : Launch} {G : GG} (a1 : Int32) (z0 : St) (Q : Int32 → St → Prop) (hP : P_M_blocked a1 z0 Q) : Cti l y_M_blocked cc_M_blocked 4 (some .int) rm_M_blocked G [.ref (ha G 31), .int a1] z0 Q := by
  refine Cti.op (own := R_M) (by decide) rfl (Nat.le_of_ble_eq_true rfl) (fun p e s m args below meth c ls E hl hW => ?_)
  obtain ⟨hx, hb, hml, hown, hr, hlk, hex, hE⟩ := id E
  have hl : lv_has ls 4 [(0, .ref (ha G 31)), (1, .int a1)] := hl
  refine lv_aload_n hx hb d_M_blocked_0 rfl (lv_at hl 0 rfl) ?_
  refine lv_iload_n hx hb d_M_blocked_1 rfl (lv_at hl 1 rfl) ?_
  refine lv_if_ge (tgt := 9) hx hb d_M_blocked_2 rfl (fun hc => ?_) (fun hc => ?_)
  · have hP := hP.1 hc
    refine lv_aload_n hx hb d_M_blocked_9 rfl (lv_at hl 0 rfl) ?_
    refine yc_i (yV (As := []) (rest := [.ref (ha G 31)]) E (c_M_counts _ _ hP) (cw_M_155 hE) (yrv_31 hE hW) (by decide) hW hl.1 rfl rfl rfl d_M_blocked_10) hW (fun x2 z1 H locs hP hW => ?_)
    refine lv_if_ne (tgt := 20) hx hb d_M_blocked_13 rfl (fun hc => ?_) (fun hc => ?_)
    · have hP := hP.1 hc
      refine lv_iconst (v := 0) hx hb d_M_blocked_20 (by decide) ?_
      exact wJ_M_blocked_21 E _ _ _ _ _ _ hP hl hW
    · have hP := hP.2 hc
      refine lv_iconst (v := 2) hx hb d_M_blocked_16 (by decide) ?_
      refine lv_goto (tgt := 21) hx hb d_M_blocked_17 rfl ?_
      exact wJ_M_blocked_21 E _ _ _ _ _ _ hP hl hW
  · have hP := hP.2 hc
    refine lv_iconst (v := 1) hx hb d_M_blocked_5 (by decide) ?_
    refine lv_goto (tgt := 21) hx hb d_M_blocked_6 rfl ?_
    exact wJ_M_blocked_21 E _ _ _ _ _ _ hP hl hW
theorem d_M_personOf_0 : decode cc_M_personOf 0 = .ok (.iload_n 2, 1) := by decide +kernel
theorem d_M_personOf_1 : decode cc_M_personOf 1 = .ok (.istore_n 3, 1) := by decide +kernel
theorem d_M_personOf_2 : decode cc_M_personOf 2 = .ok (.iconst 0, 1) := by decide +kernel
theorem d_M_personOf_3 : decode cc_M_personOf 3 = .ok (.istore 4, 2) := by decide +kernel
theorem d_M_personOf_5 : decode cc_M_personOf 5 = .ok (.aload_n 0, 1) := by decide +kernel
theorem d_M_personOf_6 : decode cc_M_personOf 6 = .ok (.iload 4, 2) := by decide +kernel
theorem d_M_personOf_8 : decode cc_M_personOf 8 = .ok (.invokevirtual 79, 3) := by decide +kernel
theorem d_M_personOf_11 : decode cc_M_personOf 11 = .ok (.aload_n 0, 1) := by decide +kernel
theorem d_M_personOf_12 : decode cc_M_personOf 12 = .ok (.getfield 30, 3) := by decide +kernel
theorem d_M_personOf_15 : decode cc_M_personOf 15 = .ok (.iload_n 1, 1) := by decide +kernel
theorem d_M_personOf_16 : decode cc_M_personOf 16 = .ok (.iaload, 1) := by decide +kernel
theorem d_M_personOf_17 : decode cc_M_personOf 17 = .ok (.if_icmp .ne 7, 3) := by decide +kernel
theorem d_M_personOf_20 : decode cc_M_personOf 20 = .ok (.iload_n 3, 1) := by decide +kernel
theorem d_M_personOf_21 : decode cc_M_personOf 21 = .ok (.ifCond .le 32, 3) := by decide +kernel
theorem d_M_personOf_24 : decode cc_M_personOf 24 = .ok (.iload_n 3, 1) := by decide +kernel
theorem d_M_personOf_25 : decode cc_M_personOf 25 = .ok (.aload_n 0, 1) := by decide +kernel
theorem d_M_personOf_26 : decode cc_M_personOf 26 = .ok (.iload 4, 2) := by decide +kernel
theorem d_M_personOf_28 : decode cc_M_personOf 28 = .ok (.invokevirtual 79, 3) := by decide +kernel
theorem d_M_personOf_31 : decode cc_M_personOf 31 = .ok (.aload_n 0, 1) := by decide +kernel
theorem d_M_personOf_32 : decode cc_M_personOf 32 = .ok (.getfield 30, 3) := by decide +kernel
theorem d_M_personOf_35 : decode cc_M_personOf 35 = .ok (.iload_n 1, 1) := by decide +kernel
theorem d_M_personOf_36 : decode cc_M_personOf 36 = .ok (.iaload, 1) := by decide +kernel
theorem d_M_personOf_37 : decode cc_M_personOf 37 = .ok (.if_icmp .ne 7, 3) := by decide +kernel
theorem d_M_personOf_40 : decode cc_M_personOf 40 = .ok (.iconst 1, 1) := by decide +kernel
theorem d_M_personOf_41 : decode cc_M_personOf 41 = .ok (.goto 4, 3) := by decide +kernel
theorem d_M_personOf_44 : decode cc_M_personOf 44 = .ok (.iconst 0, 1) := by decide +kernel
theorem d_M_personOf_45 : decode cc_M_personOf 45 = .ok (.isub, 1) := by decide +kernel
theorem d_M_personOf_46 : decode cc_M_personOf 46 = .ok (.istore_n 3, 1) := by decide +kernel
theorem d_M_personOf_47 : decode cc_M_personOf 47 = .ok (.iinc 4 1, 3) := by decide +kernel
theorem d_M_personOf_50 : decode cc_M_personOf 50 = .ok (.goto (-45), 3) := by decide +kernel
theorem d_M_personOf_53 : decode cc_M_personOf 53 = .ok (.iload 4, 2) := by decide +kernel
theorem d_M_personOf_55 : decode cc_M_personOf 55 = .ok (.ireturn, 1) := by decide +kernel
def J_M_personOf_24 (K5 : Int32 → Int32 → Int32 → St → Prop) (Q : Int32 → St → Prop) (v1 : Int32) (v3 : Int32) (v4 : Int32) (z0 : St) : Prop := P_M_is v4 z0 (fun (x4 : Int32) (z3 : St) => vp_in v1 17 ∧ ((¬ x4 = (z3.1 37 v1.toNatClampNeg)) → ∀ x5 : Int32, x5 = v3 - (0 : Int32) → ∀ x6 : Int32, x6 = v4 + 1 → K5 v1 x5 x6 z3) ∧ ((x4 = (z3.1 37 v1.toNatClampNeg)) → ∀ x7 : Int32, x7 = v3 - (1 : Int32) → ∀ x8 : Int32, x8 = v4 + 1 → K5 v1 x7 x8 z3))
def L_M_personOf_5 (Q : Int32 → St → Prop) : Nat → Int32 → Int32 → Int32 → St → Prop
  | 0, _, _, _, _ => False
  | n + 1, v1, v3, v4, z0 => P_M_is v4 z0 (fun (x2 : Int32) (z1 : St) => vp_in v1 17 ∧ ((¬ x2 = (z1.1 37 v1.toNatClampNeg)) → J_M_personOf_24 (L_M_personOf_5 Q n) Q v1 v3 v4 z1) ∧ ((x2 = (z1.1 37 v1.toNatClampNeg)) → ((v3 ≤ 0) → Q v4 z1) ∧ ((¬ v3 ≤ 0) → J_M_personOf_24 (L_M_personOf_5 Q n) Q v1 v3 v4 z1)))
def P_M_personOf (a1 : Int32) (a2 : Int32) (z0 : St) (Q : Int32 → St → Prop) : Prop := ∃ k5 : Nat, L_M_personOf_5 Q k5 a1 a2 (0 : Int32) z0
set_option maxHeartbeats 4000000 in
set_option maxRecDepth 100000 in
theorem wJ_M_personOf_24 {K5 : Int32 → Int32 → Int32 → St → Prop} {Q : Int32 → St → Prop} (E : En p l s m meth c args cc_M_personOf 5 R_M (some .int) G)
    (hK5 : ∀ (v1 : Int32) (v3 : Int32) (v4 : Int32) (z0 : St) (ls : Array Slot) (H : Heap) (locs : List Loc), K5 v1 v3 v4 z0 → lv_has ls 5 [(0, .ref (ha G 31)), (1, .int v1), (3, .int v3), (4, .int v4)] → Wd G z0 s.heap H locs → W p l e rm_M_personOf s m args below meth c H locs 0 0 (MQ below (QiR Q G) args s 0 0 (fr G)) (F0 m 5 ls []))
    (v1 : Int32) (v3 : Int32) (v4 : Int32) (z0 : St) (ls : Array Slot) (H : Heap) (locs : List Loc) (hP : J_M_personOf_24 K5 Q v1 v3 v4 z0) (hl : lv_has ls 5 [(0, .ref (ha G 31)), (1, .int v1), (3, .int v3), (4, .int v4)]) (hW : Wd G z0 s.heap H locs) : W p l e rm_M_personOf s m args below meth c H locs 0 0 (MQ below (QiR Q G) args s 0 0 (fr G)) (F0 m 24 ls []) := by
  obtain ⟨hx, hb, hml, hown, hr, hlk, hex, hE⟩ := id E
  refine lv_iload_n hx hb d_M_personOf_24 rfl (lv_at hl 2 rfl) ?_
  refine lv_aload_n hx hb d_M_personOf_25 rfl (lv_at hl 0 rfl) ?_
  refine lv_iload hx hb d_M_personOf_26 (lv_at hl 3 rfl) ?_
  refine yc_i (yV (As := [.int v4]) (rest := [.int v3]) E (c_M_is _ _ _ hP) (cw_M_79 hE) (yrv_31 hE hW) (by decide) hW hl.1 rfl rfl rfl d_M_personOf_28) hW (fun x4 z3 H locs hP hW => ?_)
  refine lv_aload_n hx hb d_M_personOf_31 rfl (lv_at hl 0 rfl) ?_
  refine ygf_31_9 hx hb hown hE hW (lk_M_30 hE) d_M_personOf_32 ?_
  refine lv_iload_n hx hb d_M_personOf_35 rfl (lv_at hl 1 rfl) ?_
  refine ya_37 hx hb hE hW hP.1 d_M_personOf_36 ?_
  have hP := hP.2
  refine lv_icmp_ne (tgt := 44) hx hb d_M_personOf_37 rfl (fun hc => ?_) (fun hc => ?_)
  · have hP := hP.1 hc
    refine lv_iconst (v := 0) hx hb d_M_personOf_44 (by decide) ?_
    refine lv_isub hx hb d_M_personOf_45 ?_
    refine lv_topi (fun x5 e_x5 => ?_)
    have hP := hP x5 e_x5
    refine lv_istore_n (lv' := [(3, .int x5), (0, .ref (ha G 31)), (1, .int v1), (4, .int v4)]) hx hb d_M_personOf_46 rfl hl (by decide) rfl (fun ls hl => ?_)
    obtain ⟨x6, e_x6⟩ : ∃ z : Int32, z = v4 + 1 := ⟨_, rfl⟩
    have hP := hP x6 e_x6
    refine lv_iinc (k := 3) (lv' := [(4, .int x6), (3, .int x5), (0, .ref (ha G 31)), (1, .int v1)]) hx hb d_M_personOf_47 hl rfl (ii_p1 e_x6) (by decide) rfl (fun ls hl => ?_)
    refine lv_goto (tgt := 5) hx hb d_M_personOf_50 rfl ?_
    exact hK5 _ _ _ _ _ _ _ hP (lv_sub hl [2, 3, 1, 0] rfl) hW
  · have hP := hP.2 hc
    refine lv_iconst (v := 1) hx hb d_M_personOf_40 (by decide) ?_
    refine lv_goto (tgt := 45) hx hb d_M_personOf_41 rfl ?_
    refine lv_isub hx hb d_M_personOf_45 ?_
    refine lv_topi (fun x7 e_x7 => ?_)
    have hP := hP x7 e_x7
    refine lv_istore_n (lv' := [(3, .int x7), (0, .ref (ha G 31)), (1, .int v1), (4, .int v4)]) hx hb d_M_personOf_46 rfl hl (by decide) rfl (fun ls hl => ?_)
    obtain ⟨x8, e_x8⟩ : ∃ z : Int32, z = v4 + 1 := ⟨_, rfl⟩
    have hP := hP x8 e_x8
    refine lv_iinc (k := 3) (lv' := [(4, .int x8), (3, .int x7), (0, .ref (ha G 31)), (1, .int v1)]) hx hb d_M_personOf_47 hl rfl (ii_p1 e_x8) (by decide) rfl (fun ls hl => ?_)
    refine lv_goto (tgt := 5) hx hb d_M_personOf_50 rfl ?_
    exact hK5 _ _ _ _ _ _ _ hP (lv_sub hl [2, 3, 1, 0] rfl) hW
set_option maxHeartbeats 4000000 in
set_option maxRecDepth 100000 in
theorem wL_M_personOf_5 {Q : Int32 → St → Prop} (E : En p l s m meth c args cc_M_personOf 5 R_M (some .int) G) :
    ∀ (n : Nat) (v1 : Int32) (v3 : Int32) (v4 : Int32) (z0 : St) (ls : Array Slot) (H : Heap) (locs : List Loc), L_M_personOf_5 Q n v1 v3 v4 z0 → lv_has ls 5 [(0, .ref (ha G 31)), (1, .int v1), (3, .int v3), (4, .int v4)] → Wd G z0 s.heap H locs → W p l e rm_M_personOf s m args below meth c H locs 0 0 (MQ below (QiR Q G) args s 0 0 (fr G)) (F0 m 5 ls []) := by
  obtain ⟨hx, hb, hml, hown, hr, hlk, hex, hE⟩ := id E
  intro n
  induction n with
  | zero => exact fun _ _ _ _ _ _ _ hP _ _ => hP.elim
  | succ n ih =>
    intro v1 v3 v4 z0 ls H locs hP hl hW
    refine lv_aload_n hx hb d_M_personOf_5 rfl (lv_at hl 0 rfl) ?_
    refine lv_iload hx hb d_M_personOf_6 (lv_at hl 3 rfl) ?_
    refine yc_i (yV (As := [.int v4]) (rest := []) E (c_M_is _ _ _ hP) (cw_M_79 hE) (yrv_31 hE hW) (by decide) hW hl.1 rfl rfl rfl d_M_personOf_8) hW (fun x2 z1 H locs hP hW => ?_)
    refine lv_aload_n hx hb d_M_personOf_11 rfl (lv_at hl 0 rfl) ?_
    refine ygf_31_9 hx hb hown hE hW (lk_M_30 hE) d_M_personOf_12 ?_
    refine lv_iload_n hx hb d_M_personOf_15 rfl (lv_at hl 1 rfl) ?_
    refine ya_37 hx hb hE hW hP.1 d_M_personOf_16 ?_
    have hP := hP.2
    refine lv_icmp_ne (tgt := 24) hx hb d_M_personOf_17 rfl (fun hc => ?_) (fun hc => ?_)
    · have hP := hP.1 hc
      exact wJ_M_personOf_24 E ih _ _ _ _ _ _ _ hP hl hW
    · have hP := hP.2 hc
      refine lv_iload_n hx hb d_M_personOf_20 rfl (lv_at hl 2 rfl) ?_
      refine lv_if_le (tgt := 53) hx hb d_M_personOf_21 rfl (fun hc => ?_) (fun hc => ?_)
      · have hP := hP.1 hc
        refine lv_iload hx hb d_M_personOf_53 (lv_at hl 3 rfl) ?_
        exact yr_i hx hb hr hlk hW hP d_M_personOf_55
      · have hP := hP.2 hc
        exact wJ_M_personOf_24 E ih _ _ _ _ _ _ _ hP hl hW
set_option maxHeartbeats 4000000 in
set_option maxRecDepth 100000 in
theorem c_M_personOf {l : Launch} {G : GG} (a1 : Int32) (a2 : Int32) (z0 : St) (Q : Int32 → St → Prop) (hP : P_M_personOf a1 a2 z0 Q) : Cti l y_M_personOf cc_M_personOf 5 (some .int) rm_M_personOf G [.ref (ha G 31), .int a1, .int a2] z0 Q := by
  refine Cti.op (own := R_M) (by decide) rfl (Nat.le_of_ble_eq_true rfl) (fun p e s m args below meth c ls E hl hW => ?_)
  obtain ⟨hx, hb, hml, hown, hr, hlk, hex, hE⟩ := id E
  have hl : lv_has ls 5 [(0, .ref (ha G 31)), (1, .int a1), (2, .int a2)] := hl
  refine lv_iload_n hx hb d_M_personOf_0 rfl (lv_at hl 2 rfl) ?_
  refine lv_istore_n (lv' := [(3, .int a2), (0, .ref (ha G 31)), (1, .int a1), (2, .int a2)]) hx hb d_M_personOf_1 rfl hl (by decide) rfl (fun ls hl => ?_)
  refine lv_iconst (v := 0) hx hb d_M_personOf_2 (by decide) ?_
  refine lv_istore (lv' := [(4, .int (0 : Int32)), (3, .int a2), (0, .ref (ha G 31)), (1, .int a1), (2, .int a2)]) hx hb d_M_personOf_3 hl (by decide) rfl (fun ls hl => ?_)
  obtain ⟨n2, hP⟩ := hP
  refine wL_M_personOf_5 E n2 _ _ _ _ _ _ _ hP (lv_sub hl [2, 3, 1, 0] rfl) hW
theorem d_M_rows_0 : decode cc_M_rows 0 = .ok (.lload_n 3, 1) := by decide +kernel
theorem d_M_rows_1 : decode cc_M_rows 1 = .ok (.lstore 5, 2) := by decide +kernel
theorem d_M_rows_3 : decode cc_M_rows 3 = .ok (.iconst 0, 1) := by decide +kernel
theorem d_M_rows_4 : decode cc_M_rows 4 = .ok (.istore 7, 2) := by decide +kernel
theorem d_M_rows_6 : decode cc_M_rows 6 = .ok (.iload_n 2, 1) := by decide +kernel
theorem d_M_rows_7 : decode cc_M_rows 7 = .ok (.istore 8, 2) := by decide +kernel
theorem d_M_rows_9 : decode cc_M_rows 9 = .ok (.iload 8, 2) := by decide +kernel
theorem d_M_rows_11 : decode cc_M_rows 11 = .ok (.ifCond .le 91, 3) := by decide +kernel
theorem d_M_rows_14 : decode cc_M_rows 14 = .ok (.lload 5, 2) := by decide +kernel
theorem d_M_rows_16 : decode cc_M_rows 16 = .ok (.aload_n 0, 1) := by decide +kernel
theorem d_M_rows_17 : decode cc_M_rows 17 = .ok (.getfield 33, 3) := by decide +kernel
theorem d_M_rows_20 : decode cc_M_rows 20 = .ok (.iload_n 1, 1) := by decide +kernel
theorem d_M_rows_21 : decode cc_M_rows 21 = .ok (.iaload, 1) := by decide +kernel
theorem d_M_rows_22 : decode cc_M_rows 22 = .ok (.iload 7, 2) := by decide +kernel
theorem d_M_rows_24 : decode cc_M_rows 24 = .ok (.isub, 1) := by decide +kernel
theorem d_M_rows_25 : decode cc_M_rows 25 = .ok (.iconst 1, 1) := by decide +kernel
theorem d_M_rows_26 : decode cc_M_rows 26 = .ok (.isub, 1) := by decide +kernel
theorem d_M_rows_27 : decode cc_M_rows 27 = .ok (.iload 8, 2) := by decide +kernel
theorem d_M_rows_29 : decode cc_M_rows 29 = .ok (.iconst 1, 1) := by decide +kernel
theorem d_M_rows_30 : decode cc_M_rows 30 = .ok (.isub, 1) := by decide +kernel
theorem d_M_rows_31 : decode cc_M_rows 31 = .ok (.invokestatic 147, 3) := by decide +kernel
theorem d_M_rows_34 : decode cc_M_rows 34 = .ok (.lcmp, 1) := by decide +kernel
theorem d_M_rows_35 : decode cc_M_rows 35 = .ok (.ifCond .lt 32, 3) := by decide +kernel
theorem d_M_rows_38 : decode cc_M_rows 38 = .ok (.lload 5, 2) := by decide +kernel
theorem d_M_rows_40 : decode cc_M_rows 40 = .ok (.aload_n 0, 1) := by decide +kernel
theorem d_M_rows_41 : decode cc_M_rows 41 = .ok (.getfield 33, 3) := by decide +kernel
theorem d_M_rows_44 : decode cc_M_rows 44 = .ok (.iload_n 1, 1) := by decide +kernel
theorem d_M_rows_45 : decode cc_M_rows 45 = .ok (.iaload, 1) := by decide +kernel
theorem d_M_rows_46 : decode cc_M_rows 46 = .ok (.iload 7, 2) := by decide +kernel
theorem d_M_rows_48 : decode cc_M_rows 48 = .ok (.isub, 1) := by decide +kernel
theorem d_M_rows_49 : decode cc_M_rows 49 = .ok (.iconst 1, 1) := by decide +kernel
theorem d_M_rows_50 : decode cc_M_rows 50 = .ok (.isub, 1) := by decide +kernel
theorem d_M_rows_51 : decode cc_M_rows 51 = .ok (.iload 8, 2) := by decide +kernel
theorem d_M_rows_53 : decode cc_M_rows 53 = .ok (.iconst 1, 1) := by decide +kernel
theorem d_M_rows_54 : decode cc_M_rows 54 = .ok (.isub, 1) := by decide +kernel
theorem d_M_rows_55 : decode cc_M_rows 55 = .ok (.invokestatic 147, 3) := by decide +kernel
theorem d_M_rows_58 : decode cc_M_rows 58 = .ok (.lsub, 1) := by decide +kernel
theorem d_M_rows_59 : decode cc_M_rows 59 = .ok (.lstore 5, 2) := by decide +kernel
theorem d_M_rows_61 : decode cc_M_rows 61 = .ok (.iinc 7 1, 3) := by decide +kernel
theorem d_M_rows_64 : decode cc_M_rows 64 = .ok (.goto (-50), 3) := by decide +kernel
theorem d_M_rows_67 : decode cc_M_rows 67 = .ok (.aload_n 0, 1) := by decide +kernel
theorem d_M_rows_68 : decode cc_M_rows 68 = .ok (.getfield 67, 3) := by decide +kernel
theorem d_M_rows_71 : decode cc_M_rows 71 = .ok (.aload_n 0, 1) := by decide +kernel
theorem d_M_rows_72 : decode cc_M_rows 72 = .ok (.getfield 167, 3) := by decide +kernel
theorem d_M_rows_75 : decode cc_M_rows 75 = .ok (.aload_n 0, 1) := by decide +kernel
theorem d_M_rows_76 : decode cc_M_rows 76 = .ok (.iload_n 1, 1) := by decide +kernel
theorem d_M_rows_77 : decode cc_M_rows 77 = .ok (.iload 7, 2) := by decide +kernel
theorem d_M_rows_79 : decode cc_M_rows 79 = .ok (.invokevirtual 174, 3) := by decide +kernel
theorem d_M_rows_82 : decode cc_M_rows 82 = .ok (.iastore, 1) := by decide +kernel
theorem d_M_rows_83 : decode cc_M_rows 83 = .ok (.aload_n 0, 1) := by decide +kernel
theorem d_M_rows_84 : decode cc_M_rows 84 = .ok (.dup, 1) := by decide +kernel
theorem d_M_rows_85 : decode cc_M_rows 85 = .ok (.getfield 167, 3) := by decide +kernel
theorem d_M_rows_88 : decode cc_M_rows 88 = .ok (.iconst 1, 1) := by decide +kernel
theorem d_M_rows_89 : decode cc_M_rows 89 = .ok (.iadd, 1) := by decide +kernel
theorem d_M_rows_90 : decode cc_M_rows 90 = .ok (.putfield 167, 3) := by decide +kernel
theorem d_M_rows_93 : decode cc_M_rows 93 = .ok (.iinc 7 1, 3) := by decide +kernel
theorem d_M_rows_96 : decode cc_M_rows 96 = .ok (.iinc 8 (-1), 3) := by decide +kernel
theorem d_M_rows_99 : decode cc_M_rows 99 = .ok (.goto (-90), 3) := by decide +kernel
theorem d_M_rows_102 : decode cc_M_rows 102 = .ok (.return_, 1) := by decide +kernel
def L_M_rows_14 (K67 : Int32 → Int64 → Int32 → Int32 → St → Prop) (Q : St → Prop) : Nat → Int32 → Int64 → Int32 → Int32 → St → Prop
  | 0, _, _, _, _, _ => False
  | n + 1, v1, v5, v7, v8, z0 => vp_in v1 17 ∧ P_M_choose (((z0.1 38 v1.toNatClampNeg) - v7) - (1 : Int32)) (v8 - (1 : Int32)) z0 (fun (x2 : Int64) (z1 : St) => ((v5 < x2) → K67 v1 v5 v7 v8 z1) ∧ ((¬ v5 < x2) → vp_in v1 17 ∧ P_M_choose (((z1.1 38 v1.toNatClampNeg) - v7) - (1 : Int32)) (v8 - (1 : Int32)) z1 (fun (x4 : Int64) (z3 : St) => ∀ x5 : Int64, x5 = v5 - x4 → ∀ x6 : Int32, x6 = v7 + 1 → L_M_rows_14 K67 Q n v1 x5 x6 v8 z3)))
def L_M_rows_9 (Q : St → Prop) : Nat → Int32 → Int64 → Int32 → Int32 → St → Prop
  | 0, _, _, _, _, _ => False
  | n + 1, v1, v5, v7, v8, z0 => ((v8 ≤ 0) → Q z0) ∧ ((¬ v8 ≤ 0) → ∃ k14 : Nat, L_M_rows_14 (fun (x7 : Int32) (x8 : Int64) (x9 : Int32) (x10 : Int32) (z11 : St) => P_M_personOf x7 x9 z11 (fun (x13 : Int32) (z12 : St) => vp_in (z11.1 31 34) 8 ∧ ∀ z14 : St, z14 = wI z12 48 (z11.1 31 34).toNatClampNeg x13 → ∀ z15 : St, z15 = wI z14 31 34 ((z14.1 31 34) + (1 : Int32)) → ∀ x16 : Int32, x16 = x9 + 1 → ∀ x17 : Int32, x17 = x10 - 1 → L_M_rows_9 Q n x7 x8 x16 x17 z15)) Q k14 v1 v5 v7 v8 z0)
def P_M_rows (a1 : Int32) (a2 : Int32) (a3 : Int64) (z0 : St) (Q : St → Prop) : Prop := ∃ k9 : Nat, L_M_rows_9 Q k9 a1 a3 (0 : Int32) a2 z0
set_option maxHeartbeats 4000000 in
set_option maxRecDepth 100000 in
theorem wL_M_rows_14 {K67 : Int32 → Int64 → Int32 → Int32 → St → Prop} {Q : St → Prop} (E : En p l s m meth c args cc_M_rows 9 R_M none G)
    (hK67 : ∀ (v1 : Int32) (v5 : Int64) (v7 : Int32) (v8 : Int32) (z0 : St) (ls : Array Slot) (H : Heap) (locs : List Loc), K67 v1 v5 v7 v8 z0 → lv_has ls 9 [(0, .ref (ha G 31)), (1, .int v1), (5, .long v5), (7, .int v7), (8, .int v8)] → Wd G z0 s.heap H locs → W p l e rm_M_rows s m args below meth c H locs 0 0 (MQ below (QvR Q G) args s 0 0 (fr G)) (F0 m 67 ls [])) :
    ∀ (n : Nat) (v1 : Int32) (v5 : Int64) (v7 : Int32) (v8 : Int32) (z0 : St) (ls : Array Slot) (H : Heap) (locs : List Loc), L_M_rows_14 K67 Q n v1 v5 v7 v8 z0 → lv_has ls 9 [(0, .ref (ha G 31)), (1, .int v1), (5, .long v5), (7, .int v7), (8, .int v8)] → Wd G z0 s.heap H locs → W p l e rm_M_rows s m args below meth c H locs 0 0 (MQ below (QvR Q G) args s 0 0 (fr G)) (F0 m 14 ls []) := by
  obtain ⟨hx, hb, hml, hown, hr, hlk, hex, hE⟩ := id E
  intro n
  induction n with
  | zero => exact fun _ _ _ _ _ _ _ _ hP _ _ => hP.elim
  | succ n ih =>
    intro v1 v5 v7 v8 z0 ls H locs hP hl hW
    refine lv_lload hx hb d_M_rows_14 (lv_at hl 2 rfl) ?_
    refine lv_aload_n hx hb d_M_rows_16 rfl (lv_at hl 0 rfl) ?_
    refine ygf_31_10 hx hb hown hE hW (lk_M_33 hE) d_M_rows_17 ?_
    refine lv_iload_n hx hb d_M_rows_20 rfl (lv_at hl 1 rfl) ?_
    refine ya_38 hx hb hE hW hP.1 d_M_rows_21 ?_
    have hP := hP.2
    refine lv_iload hx hb d_M_rows_22 (lv_at hl 3 rfl) ?_
    refine lv_isub hx hb d_M_rows_24 ?_
    refine lv_iconst (v := 1) hx hb d_M_rows_25 (by decide) ?_
    refine lv_isub hx hb d_M_rows_26 ?_
    refine lv_iload hx hb d_M_rows_27 (lv_at hl 4 rfl) ?_
    refine lv_iconst (v := 1) hx hb d_M_rows_29 (by decide) ?_
    refine lv_isub hx hb d_M_rows_30 ?_
    refine yc_l (yS (As := [.int (((z0.1 38 v1.toNatClampNeg) - v7) - (1 : Int32)), .int (v8 - (1 : Int32))]) (rest := [.long v5]) E (c_M_choose _ _ _ _ hP) (cw_M_147 hE) (by decide) hW hl.1 rfl rfl rfl d_M_rows_31) hW (fun x2 z1 H locs hP hW => ?_)
    refine W.lcmp hx hb d_M_rows_34 ?_
    refine lv_if_lt (tgt := 67) hx hb d_M_rows_35 rfl (fun hc => ?_) (fun hc => ?_)
    · have hP := hP.1 (lgc_ltt hc)
      exact hK67 _ _ _ _ _ _ _ _ hP hl hW
    · have hP := hP.2 (lgc_ltf hc)
      refine lv_lload hx hb d_M_rows_38 (lv_at hl 2 rfl) ?_
      refine lv_aload_n hx hb d_M_rows_40 rfl (lv_at hl 0 rfl) ?_
      refine ygf_31_10 hx hb hown hE hW (lk_M_33 hE) d_M_rows_41 ?_
      refine lv_iload_n hx hb d_M_rows_44 rfl (lv_at hl 1 rfl) ?_
      refine ya_38 hx hb hE hW hP.1 d_M_rows_45 ?_
      have hP := hP.2
      refine lv_iload hx hb d_M_rows_46 (lv_at hl 3 rfl) ?_
      refine lv_isub hx hb d_M_rows_48 ?_
      refine lv_iconst (v := 1) hx hb d_M_rows_49 (by decide) ?_
      refine lv_isub hx hb d_M_rows_50 ?_
      refine lv_iload hx hb d_M_rows_51 (lv_at hl 4 rfl) ?_
      refine lv_iconst (v := 1) hx hb d_M_rows_53 (by decide) ?_
      refine lv_isub hx hb d_M_rows_54 ?_
      refine yc_l (yS (As := [.int (((z1.1 38 v1.toNatClampNeg) - v7) - (1 : Int32)), .int (v8 - (1 : Int32))]) (rest := [.long v5]) E (c_M_choose _ _ _ _ hP) (cw_M_147 hE) (by decide) hW hl.1 rfl rfl rfl d_M_rows_55) hW (fun x4 z3 H locs hP hW => ?_)
      refine lv_lsub hx hb d_M_rows_58 ?_
      refine lv_topl (fun x5 e_x5 => ?_)
      have hP := hP x5 e_x5
      refine lv_lstore (lv' := [(5, .long x5), (0, .ref (ha G 31)), (1, .int v1), (7, .int v7), (8, .int v8)]) hx hb d_M_rows_59 hl (by decide) rfl (fun ls hl => ?_)
      obtain ⟨x6, e_x6⟩ : ∃ z : Int32, z = v7 + 1 := ⟨_, rfl⟩
      have hP := hP x6 e_x6
      refine lv_iinc (k := 3) (lv' := [(7, .int x6), (5, .long x5), (0, .ref (ha G 31)), (1, .int v1), (8, .int v8)]) hx hb d_M_rows_61 hl rfl (ii_p1 e_x6) (by decide) rfl (fun ls hl => ?_)
      refine lv_goto (tgt := 14) hx hb d_M_rows_64 rfl ?_
      exact ih _ _ _ _ _ _ _ _ hP (lv_sub hl [2, 3, 1, 0, 4] rfl) hW
set_option maxHeartbeats 4000000 in
set_option maxRecDepth 100000 in
theorem wL_M_rows_9 {Q : St → Prop} (E : En p l s m meth c args cc_M_rows 9 R_M none G) :
    ∀ (n : Nat) (v1 : Int32) (v5 : Int64) (v7 : Int32) (v8 : Int32) (z0 : St) (ls : Array Slot) (H : Heap) (locs : List Loc), L_M_rows_9 Q n v1 v5 v7 v8 z0 → lv_has ls 9 [(0, .ref (ha G 31)), (1, .int v1), (5, .long v5), (7, .int v7), (8, .int v8)] → Wd G z0 s.heap H locs → W p l e rm_M_rows s m args below meth c H locs 0 0 (MQ below (QvR Q G) args s 0 0 (fr G)) (F0 m 9 ls []) := by
  obtain ⟨hx, hb, hml, hown, hr, hlk, hex, hE⟩ := id E
  intro n
  induction n with
  | zero => exact fun _ _ _ _ _ _ _ _ hP _ _ => hP.elim
  | succ n ih =>
    intro v1 v5 v7 v8 z0 ls H locs hP hl hW
    refine lv_iload hx hb d_M_rows_9 (lv_at hl 4 rfl) ?_
    refine lv_if_le (tgt := 102) hx hb d_M_rows_11 rfl (fun hc => ?_) (fun hc => ?_)
    · have hP := hP.1 hc
      exact yr_v hx hb hr hlk hW hP d_M_rows_102
    · have hP := hP.2 hc
      obtain ⟨n2, hP⟩ := hP
      refine wL_M_rows_14 E ?_ n2 _ _ _ _ _ _ _ _ hP hl hW
      · intro x7 x8 x9 x10 z11 ls H locs hP hl hW
        refine lv_aload_n hx hb d_M_rows_67 rfl (lv_at hl 0 rfl) ?_
        refine ygf_31_33 hx hb hown hE hW (lk_M_67 hE) d_M_rows_68 ?_
        refine lv_aload_n hx hb d_M_rows_71 rfl (lv_at hl 0 rfl) ?_
        refine ygf_31_34 hx hb hown hE hW (lk_M_167 hE) d_M_rows_72 ?_
        refine lv_aload_n hx hb d_M_rows_75 rfl (lv_at hl 0 rfl) ?_
        refine lv_iload_n hx hb d_M_rows_76 rfl (lv_at hl 1 rfl) ?_
        refine lv_iload hx hb d_M_rows_77 (lv_at hl 3 rfl) ?_
        refine yc_i (yV (As := [.int x7, .int x9]) (rest := [.int (z11.1 31 34), .ref (ha G 48)]) E (c_M_personOf _ _ _ _ hP) (cw_M_174 hE) (yrv_31 hE hW) (by decide) hW hl.1 rfl rfl rfl d_M_rows_79) hW (fun x13 z12 H locs hP hW => ?_)
        refine ys_48 hx hb hE hW hP.1 d_M_rows_82 (fun z14 H locs e_z14 hW => ?_)
        have hP := hP.2
        have hP := hP z14 e_z14
        refine lv_aload_n hx hb d_M_rows_83 rfl (lv_at hl 0 rfl) ?_
        refine lv_dup hx hb d_M_rows_84 rfl ?_
        refine ygf_31_34 hx hb hown hE hW (lk_M_167 hE) d_M_rows_85 ?_
        refine lv_iconst (v := 1) hx hb d_M_rows_88 (by decide) ?_
        refine lv_iadd hx hb d_M_rows_89 ?_
        refine ypf_31_34 hx hb hown hE hW (lk_M_167 hE) d_M_rows_90 (fun z15 H locs e_z15 hW => ?_)
        have hP := hP z15 e_z15
        obtain ⟨x16, e_x16⟩ : ∃ z : Int32, z = x9 + 1 := ⟨_, rfl⟩
        have hP := hP x16 e_x16
        refine lv_iinc (k := 3) (lv' := [(7, .int x16), (0, .ref (ha G 31)), (1, .int x7), (5, .long x8), (8, .int x10)]) hx hb d_M_rows_93 hl rfl (ii_p1 e_x16) (by decide) rfl (fun ls hl => ?_)
        obtain ⟨x17, e_x17⟩ : ∃ z : Int32, z = x10 - 1 := ⟨_, rfl⟩
        have hP := hP x17 e_x17
        refine lv_iinc (k := 4) (lv' := [(8, .int x17), (7, .int x16), (0, .ref (ha G 31)), (1, .int x7), (5, .long x8)]) hx hb d_M_rows_96 hl rfl (ii_m1 e_x17) (by decide) rfl (fun ls hl => ?_)
        refine lv_goto (tgt := 9) hx hb d_M_rows_99 rfl ?_
        exact ih _ _ _ _ _ _ _ _ hP (lv_sub hl [2, 3, 4, 1, 0] rfl) hW
set_option maxHeartbeats 4000000 in
set_option maxRecDepth 100000 in
theorem c_M_rows {l : Launch} {G : GG} (a1 : Int32) (a2 : Int32) (a3 : Int64) (z0 : St) (Q : St → Prop) (hP : P_M_rows a1 a2 a3 z0 Q) : Ctv l y_M_rows cc_M_rows 9 none rm_M_rows G [.ref (ha G 31), .int a1, .int a2, .long a3] z0 Q := by
  refine Ctv.op (own := R_M) (by decide) rfl (Nat.le_of_ble_eq_true rfl) (fun p e s m args below meth c ls E hl hW => ?_)
  obtain ⟨hx, hb, hml, hown, hr, hlk, hex, hE⟩ := id E
  have hl : lv_has ls 9 [(0, .ref (ha G 31)), (1, .int a1), (2, .int a2), (3, .long a3)] := hl
  refine lv_lload_n hx hb d_M_rows_0 rfl (lv_at hl 3 rfl) ?_
  refine lv_lstore (lv' := [(5, .long a3), (0, .ref (ha G 31)), (1, .int a1), (2, .int a2), (3, .long a3)]) hx hb d_M_rows_1 hl (by decide) rfl (fun ls hl => ?_)
  refine lv_iconst (v := 0) hx hb d_M_rows_3 (by decide) ?_
  refine lv_istore (lv' := [(7, .int (0 : Int32)), (5, .long a3), (0, .ref (ha G 31)), (1, .int a1), (2, .int a2), (3, .long a3)]) hx hb d_M_rows_4 hl (by decide) rfl (fun ls hl => ?_)
  refine lv_iload_n hx hb d_M_rows_6 rfl (lv_at hl 4 rfl) ?_
  refine lv_istore (lv' := [(8, .int a2), (7, .int (0 : Int32)), (5, .long a3), (0, .ref (ha G 31)), (1, .int a1), (2, .int a2), (3, .long a3)]) hx hb d_M_rows_7 hl (by decide) rfl (fun ls hl => ?_)
  obtain ⟨n2, hP⟩ := hP
  refine wL_M_rows_9 E n2 _ _ _ _ _ _ _ _ hP (lv_sub hl [3, 4, 2, 1, 0] rfl) hW
theorem d_M_take_0 : decode cc_M_take 0 = .ok (.lload_n 1, 1) := by decide +kernel
theorem d_M_take_1 : decode cc_M_take 1 = .ok (.lstore_n 3, 1) := by decide +kernel
theorem d_M_take_2 : decode cc_M_take 2 = .ok (.iconst 0, 1) := by decide +kernel
theorem d_M_take_3 : decode cc_M_take 3 = .ok (.istore 5, 2) := by decide +kernel
theorem d_M_take_5 : decode cc_M_take 5 = .ok (.aload_n 0, 1) := by decide +kernel
theorem d_M_take_6 : decode cc_M_take 6 = .ok (.iconst 0, 1) := by decide +kernel
theorem d_M_take_7 : decode cc_M_take 7 = .ok (.putfield 167, 3) := by decide +kernel
theorem d_M_take_10 : decode cc_M_take 10 = .ok (.iconst 0, 1) := by decide +kernel
theorem d_M_take_11 : decode cc_M_take 11 = .ok (.istore 6, 2) := by decide +kernel
theorem d_M_take_13 : decode cc_M_take 13 = .ok (.iload 6, 2) := by decide +kernel
theorem d_M_take_15 : decode cc_M_take 15 = .ok (.aload_n 0, 1) := by decide +kernel
theorem d_M_take_16 : decode cc_M_take 16 = .ok (.getfield 73, 3) := by decide +kernel
theorem d_M_take_19 : decode cc_M_take 19 = .ok (.if_icmp .ge 156, 3) := by decide +kernel
theorem d_M_take_22 : decode cc_M_take 22 = .ok (.iconst 0, 1) := by decide +kernel
theorem d_M_take_23 : decode cc_M_take 23 = .ok (.istore 7, 2) := by decide +kernel
theorem d_M_take_25 : decode cc_M_take 25 = .ok (.aload_n 0, 1) := by decide +kernel
theorem d_M_take_26 : decode cc_M_take 26 = .ok (.iload 6, 2) := by decide +kernel
theorem d_M_take_28 : decode cc_M_take 28 = .ok (.iconst 1, 1) := by decide +kernel
theorem d_M_take_29 : decode cc_M_take 29 = .ok (.iadd, 1) := by decide +kernel
theorem d_M_take_30 : decode cc_M_take 30 = .ok (.aload_n 0, 1) := by decide +kernel
theorem d_M_take_31 : decode cc_M_take 31 = .ok (.getfield 39, 3) := by decide +kernel
theorem d_M_take_34 : decode cc_M_take 34 = .ok (.iload 5, 2) := by decide +kernel
theorem d_M_take_36 : decode cc_M_take 36 = .ok (.laload, 1) := by decide +kernel
theorem d_M_take_37 : decode cc_M_take 37 = .ok (.invokevirtual 137, 3) := by decide +kernel
theorem d_M_take_40 : decode cc_M_take 40 = .ok (.istore 8, 2) := by decide +kernel
theorem d_M_take_42 : decode cc_M_take 42 = .ok (.lload_n 3, 1) := by decide +kernel
theorem d_M_take_43 : decode cc_M_take 43 = .ok (.aload_n 0, 1) := by decide +kernel
theorem d_M_take_44 : decode cc_M_take 44 = .ok (.getfield 43, 3) := by decide +kernel
theorem d_M_take_47 : decode cc_M_take 47 = .ok (.iload 8, 2) := by decide +kernel
theorem d_M_take_49 : decode cc_M_take 49 = .ok (.laload, 1) := by decide +kernel
theorem d_M_take_50 : decode cc_M_take 50 = .ok (.aload_n 0, 1) := by decide +kernel
theorem d_M_take_51 : decode cc_M_take 51 = .ok (.getfield 33, 3) := by decide +kernel
theorem d_M_take_54 : decode cc_M_take 54 = .ok (.iload 6, 2) := by decide +kernel
theorem d_M_take_56 : decode cc_M_take 56 = .ok (.iaload, 1) := by decide +kernel
theorem d_M_take_57 : decode cc_M_take 57 = .ok (.iload 7, 2) := by decide +kernel
theorem d_M_take_59 : decode cc_M_take 59 = .ok (.invokestatic 147, 3) := by decide +kernel
theorem d_M_take_62 : decode cc_M_take 62 = .ok (.lmul, 1) := by decide +kernel
theorem d_M_take_63 : decode cc_M_take 63 = .ok (.lcmp, 1) := by decide +kernel
theorem d_M_take_64 : decode cc_M_take 64 = .ok (.ifCond .lt 60, 3) := by decide +kernel
theorem d_M_take_67 : decode cc_M_take 67 = .ok (.lload_n 3, 1) := by decide +kernel
theorem d_M_take_68 : decode cc_M_take 68 = .ok (.aload_n 0, 1) := by decide +kernel
theorem d_M_take_69 : decode cc_M_take 69 = .ok (.getfield 43, 3) := by decide +kernel
theorem d_M_take_72 : decode cc_M_take 72 = .ok (.iload 8, 2) := by decide +kernel
theorem d_M_take_74 : decode cc_M_take 74 = .ok (.laload, 1) := by decide +kernel
theorem d_M_take_75 : decode cc_M_take 75 = .ok (.aload_n 0, 1) := by decide +kernel
theorem d_M_take_76 : decode cc_M_take 76 = .ok (.getfield 33, 3) := by decide +kernel
theorem d_M_take_79 : decode cc_M_take 79 = .ok (.iload 6, 2) := by decide +kernel
theorem d_M_take_81 : decode cc_M_take 81 = .ok (.iaload, 1) := by decide +kernel
theorem d_M_take_82 : decode cc_M_take 82 = .ok (.iload 7, 2) := by decide +kernel
theorem d_M_take_84 : decode cc_M_take 84 = .ok (.invokestatic 147, 3) := by decide +kernel
theorem d_M_take_87 : decode cc_M_take 87 = .ok (.lmul, 1) := by decide +kernel
theorem d_M_take_88 : decode cc_M_take 88 = .ok (.lsub, 1) := by decide +kernel
theorem d_M_take_89 : decode cc_M_take 89 = .ok (.lstore_n 3, 1) := by decide +kernel
theorem d_M_take_90 : decode cc_M_take 90 = .ok (.iinc 7 1, 3) := by decide +kernel
theorem d_M_take_93 : decode cc_M_take 93 = .ok (.aload_n 0, 1) := by decide +kernel
theorem d_M_take_94 : decode cc_M_take 94 = .ok (.iload 6, 2) := by decide +kernel
theorem d_M_take_96 : decode cc_M_take 96 = .ok (.iconst 1, 1) := by decide +kernel
theorem d_M_take_97 : decode cc_M_take 97 = .ok (.iadd, 1) := by decide +kernel
theorem d_M_take_98 : decode cc_M_take 98 = .ok (.aload_n 0, 1) := by decide +kernel
theorem d_M_take_99 : decode cc_M_take 99 = .ok (.getfield 39, 3) := by decide +kernel
theorem d_M_take_102 : decode cc_M_take 102 = .ok (.iload 5, 2) := by decide +kernel
theorem d_M_take_104 : decode cc_M_take 104 = .ok (.laload, 1) := by decide +kernel
theorem d_M_take_105 : decode cc_M_take 105 = .ok (.iload 7, 2) := by decide +kernel
theorem d_M_take_107 : decode cc_M_take 107 = .ok (.i2l, 1) := by decide +kernel
theorem d_M_take_108 : decode cc_M_take 108 = .ok (.aload_n 0, 1) := by decide +kernel
theorem d_M_take_109 : decode cc_M_take 109 = .ok (.iload 6, 2) := by decide +kernel
theorem d_M_take_111 : decode cc_M_take 111 = .ok (.invokevirtual 133, 3) := by decide +kernel
theorem d_M_take_114 : decode cc_M_take 114 = .ok (.lmul, 1) := by decide +kernel
theorem d_M_take_115 : decode cc_M_take 115 = .ok (.ladd, 1) := by decide +kernel
theorem d_M_take_116 : decode cc_M_take 116 = .ok (.invokevirtual 137, 3) := by decide +kernel
theorem d_M_take_119 : decode cc_M_take 119 = .ok (.istore 8, 2) := by decide +kernel
theorem d_M_take_121 : decode cc_M_take 121 = .ok (.goto (-79), 3) := by decide +kernel
theorem d_M_take_124 : decode cc_M_take 124 = .ok (.iload 7, 2) := by decide +kernel
theorem d_M_take_126 : decode cc_M_take 126 = .ok (.ifCond .le 20, 3) := by decide +kernel
theorem d_M_take_129 : decode cc_M_take 129 = .ok (.aload_n 0, 1) := by decide +kernel
theorem d_M_take_130 : decode cc_M_take 130 = .ok (.iload 6, 2) := by decide +kernel
theorem d_M_take_132 : decode cc_M_take 132 = .ok (.iload 7, 2) := by decide +kernel
theorem d_M_take_134 : decode cc_M_take 134 = .ok (.lload_n 3, 1) := by decide +kernel
theorem d_M_take_135 : decode cc_M_take 135 = .ok (.aload_n 0, 1) := by decide +kernel
theorem d_M_take_136 : decode cc_M_take 136 = .ok (.getfield 43, 3) := by decide +kernel
theorem d_M_take_139 : decode cc_M_take 139 = .ok (.iload 8, 2) := by decide +kernel
theorem d_M_take_141 : decode cc_M_take 141 = .ok (.laload, 1) := by decide +kernel
theorem d_M_take_142 : decode cc_M_take 142 = .ok (.ldiv, 1) := by decide +kernel
theorem d_M_take_143 : decode cc_M_take 143 = .ok (.invokevirtual 170, 3) := by decide +kernel
theorem d_M_take_146 : decode cc_M_take 146 = .ok (.iload 7, 2) := by decide +kernel
theorem d_M_take_148 : decode cc_M_take 148 = .ok (.ifCond .le 15, 3) := by decide +kernel
theorem d_M_take_151 : decode cc_M_take 151 = .ok (.lload_n 3, 1) := by decide +kernel
theorem d_M_take_152 : decode cc_M_take 152 = .ok (.aload_n 0, 1) := by decide +kernel
theorem d_M_take_153 : decode cc_M_take 153 = .ok (.getfield 43, 3) := by decide +kernel
theorem d_M_take_156 : decode cc_M_take 156 = .ok (.iload 8, 2) := by decide +kernel
theorem d_M_take_158 : decode cc_M_take 158 = .ok (.laload, 1) := by decide +kernel
theorem d_M_take_159 : decode cc_M_take 159 = .ok (.lrem, 1) := by decide +kernel
theorem d_M_take_160 : decode cc_M_take 160 = .ok (.goto 4, 3) := by decide +kernel
theorem d_M_take_163 : decode cc_M_take 163 = .ok (.lload_n 3, 1) := by decide +kernel
theorem d_M_take_164 : decode cc_M_take 164 = .ok (.lstore_n 3, 1) := by decide +kernel
theorem d_M_take_165 : decode cc_M_take 165 = .ok (.iload 8, 2) := by decide +kernel
theorem d_M_take_167 : decode cc_M_take 167 = .ok (.istore 5, 2) := by decide +kernel
theorem d_M_take_169 : decode cc_M_take 169 = .ok (.iinc 6 1, 3) := by decide +kernel
theorem d_M_take_172 : decode cc_M_take 172 = .ok (.goto (-159), 3) := by decide +kernel
theorem d_M_take_175 : decode cc_M_take 175 = .ok (.return_, 1) := by decide +kernel
def L_M_take_42 (K124 : Int64 → Int32 → Int32 → Int32 → St → Prop) (Q : St → Prop) : Nat → Int64 → Int32 → Int32 → Int32 → Int32 → St → Prop
  | 0, _, _, _, _, _, _ => False
  | n + 1, v3, v5, v6, v7, v8, z0 => vp_in v8 1010 ∧ vp_in v6 17 ∧ P_M_choose (z0.1 38 v6.toNatClampNeg) v7 z0 (fun (x5 : Int64) (z4 : St) => ((v3 < ((z0.2 41 v8.toNatClampNeg) * x5)) → K124 v3 v6 v7 v8 z4) ∧ ((¬ v3 < ((z0.2 41 v8.toNatClampNeg) * x5)) → vp_in v8 1010 ∧ vp_in v6 17 ∧ P_M_choose (z4.1 38 v6.toNatClampNeg) v7 z4 (fun (x7 : Int64) (z6 : St) => ∀ x8 : Int64, x8 = v3 - ((z4.2 41 v8.toNatClampNeg) * x7) → ∀ x9 : Int32, x9 = v7 + 1 → vp_in v5 1010 ∧ P_M_adds v6 z6 (fun (x11 : Int64) (z10 : St) => P_M_find (v6 + (1 : Int32)) ((z6.2 40 v5.toNatClampNeg) + (x9.toInt64 * x11)) z10 (fun (x13 : Int32) (z12 : St) => L_M_take_42 K124 Q n x8 v5 v6 x9 x13 z12)))))
def J_M_take_146 (K13 : Int64 → Int32 → Int32 → St → Prop) (Q : St → Prop) (v3 : Int64) (v6 : Int32) (v7 : Int32) (v8 : Int32) (z0 : St) : Prop := ((v7 ≤ 0) → ∀ x19 : Int32, x19 = v6 + 1 → K13 v3 v8 x19 z0) ∧ ((¬ v7 ≤ 0) → vp_in v8 1010 ∧ ¬ (z0.2 41 v8.toNatClampNeg) = 0 ∧ ∀ x20 : Int64, x20 = v3 - v3 / (z0.2 41 v8.toNatClampNeg) * (z0.2 41 v8.toNatClampNeg) → ∀ x21 : Int32, x21 = v6 + 1 → K13 x20 v8 x21 z0)
def L_M_take_13 (Q : St → Prop) : Nat → Int64 → Int32 → Int32 → St → Prop
  | 0, _, _, _, _ => False
  | n + 1, v3, v5, v6, z0 => (((z0.1 31 8) ≤ v6) → Q z0) ∧ ((¬ (z0.1 31 8) ≤ v6) → vp_in v5 1010 ∧ P_M_find (v6 + (1 : Int32)) (z0.2 40 v5.toNatClampNeg) z0 (fun (x3 : Int32) (z2 : St) => ∃ k42 : Nat, L_M_take_42 (fun (x14 : Int64) (x15 : Int32) (x16 : Int32) (x17 : Int32) (z18 : St) => ((x16 ≤ 0) → J_M_take_146 (L_M_take_13 Q n) Q x14 x15 x16 x17 z18) ∧ ((¬ x16 ≤ 0) → vp_in x17 1010 ∧ ¬ (z18.2 41 x17.toNatClampNeg) = 0 ∧ P_M_rows x15 x16 (x14 / (z18.2 41 x17.toNatClampNeg)) z18 (fun (z22 : St) => J_M_take_146 (L_M_take_13 Q n) Q x14 x15 x16 x17 z22))) Q k42 v3 v5 v6 (0 : Int32) x3 z2))
def P_M_take (a1 : Int64) (z0 : St) (Q : St → Prop) : Prop := ∀ z1 : St, z1 = wI z0 31 34 (0 : Int32) → ∃ k13 : Nat, L_M_take_13 Q k13 a1 (0 : Int32) (0 : Int32) z1
set_option maxHeartbeats 4000000 in
set_option maxRecDepth 100000 in
theorem wL_M_take_42 {K124 : Int64 → Int32 → Int32 → Int32 → St → Prop} {Q : St → Prop} (E : En p l s m meth c args cc_M_take 9 R_M none G)
    (hK124 : ∀ (v3 : Int64) (v6 : Int32) (v7 : Int32) (v8 : Int32) (z0 : St) (ls : Array Slot) (H : Heap) (locs : List Loc), K124 v3 v6 v7 v8 z0 → lv_has ls 9 [(0, .ref (ha G 31)), (3, .long v3), (6, .int v6), (7, .int v7), (8, .int v8)] → Wd G z0 s.heap H locs → W p l e rm_M_take s m args below meth c H locs 0 0 (MQ below (QvR Q G) args s 0 0 (fr G)) (F0 m 124 ls [])) :
    ∀ (n : Nat) (v3 : Int64) (v5 : Int32) (v6 : Int32) (v7 : Int32) (v8 : Int32) (z0 : St) (ls : Array Slot) (H : Heap) (locs : List Loc), L_M_take_42 K124 Q n v3 v5 v6 v7 v8 z0 → lv_has ls 9 [(0, .ref (ha G 31)), (3, .long v3), (5, .int v5), (6, .int v6), (7, .int v7), (8, .int v8)] → Wd G z0 s.heap H locs → W p l e rm_M_take s m args below meth c H locs 0 0 (MQ below (QvR Q G) args s 0 0 (fr G)) (F0 m 42 ls []) := by
  obtain ⟨hx, hb, hml, hown, hr, hlk, hex, hE⟩ := id E
  intro n
  induction n with
  | zero => exact fun _ _ _ _ _ _ _ _ _ hP _ _ => hP.elim
  | succ n ih =>
    intro v3 v5 v6 v7 v8 z0 ls H locs hP hl hW
    refine lv_lload_n hx hb d_M_take_42 rfl (lv_at hl 1 rfl) ?_
    refine lv_aload_n hx hb d_M_take_43 rfl (lv_at hl 0 rfl) ?_
    refine ygf_31_16 hx hb hown hE hW (lk_M_43 hE) d_M_take_44 ?_
    refine lv_iload hx hb d_M_take_47 (lv_at hl 5 rfl) ?_
    refine ya_41 hx hb hE hW hP.1 d_M_take_49 ?_
    have hP := hP.2
    refine lv_aload_n hx hb d_M_take_50 rfl (lv_at hl 0 rfl) ?_
    refine ygf_31_10 hx hb hown hE hW (lk_M_33 hE) d_M_take_51 ?_
    refine lv_iload hx hb d_M_take_54 (lv_at hl 3 rfl) ?_
    refine ya_38 hx hb hE hW hP.1 d_M_take_56 ?_
    have hP := hP.2
    refine lv_iload hx hb d_M_take_57 (lv_at hl 4 rfl) ?_
    refine yc_l (yS (As := [.int (z0.1 38 v6.toNatClampNeg), .int v7]) (rest := [.long (z0.2 41 v8.toNatClampNeg), .long v3]) E (c_M_choose _ _ _ _ hP) (cw_M_147 hE) (by decide) hW hl.1 rfl rfl rfl d_M_take_59) hW (fun x5 z4 H locs hP hW => ?_)
    refine lv_lmul hx hb d_M_take_62 ?_
    refine W.lcmp hx hb d_M_take_63 ?_
    refine lv_if_lt (tgt := 124) hx hb d_M_take_64 rfl (fun hc => ?_) (fun hc => ?_)
    · have hP := hP.1 (lgc_ltt hc)
      exact hK124 _ _ _ _ _ _ _ _ hP (lv_sub hl [0, 1, 3, 4, 5] rfl) hW
    · have hP := hP.2 (lgc_ltf hc)
      refine lv_lload_n hx hb d_M_take_67 rfl (lv_at hl 1 rfl) ?_
      refine lv_aload_n hx hb d_M_take_68 rfl (lv_at hl 0 rfl) ?_
      refine ygf_31_16 hx hb hown hE hW (lk_M_43 hE) d_M_take_69 ?_
      refine lv_iload hx hb d_M_take_72 (lv_at hl 5 rfl) ?_
      refine ya_41 hx hb hE hW hP.1 d_M_take_74 ?_
      have hP := hP.2
      refine lv_aload_n hx hb d_M_take_75 rfl (lv_at hl 0 rfl) ?_
      refine ygf_31_10 hx hb hown hE hW (lk_M_33 hE) d_M_take_76 ?_
      refine lv_iload hx hb d_M_take_79 (lv_at hl 3 rfl) ?_
      refine ya_38 hx hb hE hW hP.1 d_M_take_81 ?_
      have hP := hP.2
      refine lv_iload hx hb d_M_take_82 (lv_at hl 4 rfl) ?_
      refine yc_l (yS (As := [.int (z4.1 38 v6.toNatClampNeg), .int v7]) (rest := [.long (z4.2 41 v8.toNatClampNeg), .long v3]) E (c_M_choose _ _ _ _ hP) (cw_M_147 hE) (by decide) hW hl.1 rfl rfl rfl d_M_take_84) hW (fun x7 z6 H locs hP hW => ?_)
      refine lv_lmul hx hb d_M_take_87 ?_
      refine lv_lsub hx hb d_M_take_88 ?_
      refine lv_topl (fun x8 e_x8 => ?_)
      have hP := hP x8 e_x8
      refine lv_lstore_n (lv' := [(3, .long x8), (0, .ref (ha G 31)), (5, .int v5), (6, .int v6), (7, .int v7), (8, .int v8)]) hx hb d_M_take_89 rfl hl (by decide) rfl (fun ls hl => ?_)
      obtain ⟨x9, e_x9⟩ : ∃ z : Int32, z = v7 + 1 := ⟨_, rfl⟩
      have hP := hP x9 e_x9
      refine lv_iinc (k := 4) (lv' := [(7, .int x9), (3, .long x8), (0, .ref (ha G 31)), (5, .int v5), (6, .int v6), (8, .int v8)]) hx hb d_M_take_90 hl rfl (ii_p1 e_x9) (by decide) rfl (fun ls hl => ?_)
      refine lv_aload_n hx hb d_M_take_93 rfl (lv_at hl 2 rfl) ?_
      refine lv_iload hx hb d_M_take_94 (lv_at hl 4 rfl) ?_
      refine lv_iconst (v := 1) hx hb d_M_take_96 (by decide) ?_
      refine lv_iadd hx hb d_M_take_97 ?_
      refine lv_aload_n hx hb d_M_take_98 rfl (lv_at hl 2 rfl) ?_
      refine ygf_31_15 hx hb hown hE hW (lk_M_39 hE) d_M_take_99 ?_
      refine lv_iload hx hb d_M_take_102 (lv_at hl 3 rfl) ?_
      refine ya_40 hx hb hE hW hP.1 d_M_take_104 ?_
      have hP := hP.2
      refine lv_iload hx hb d_M_take_105 (lv_at hl 0 rfl) ?_
      refine lv_i2l hx hb d_M_take_107 rfl ?_
      refine lv_aload_n hx hb d_M_take_108 rfl (lv_at hl 2 rfl) ?_
      refine lv_iload hx hb d_M_take_109 (lv_at hl 4 rfl) ?_
      refine yc_l (yV (As := [.int v6]) (rest := [.long x9.toInt64, .long (z6.2 40 v5.toNatClampNeg), .int (v6 + (1 : Int32)), .ref (ha G 31)]) E (c_M_adds _ _ _ hP) (cw_M_133 hE) (yrv_31 hE hW) (by decide) hW hl.1 rfl rfl rfl d_M_take_111) hW (fun x11 z10 H locs hP hW => ?_)
      refine lv_lmul hx hb d_M_take_114 ?_
      refine lv_ladd hx hb d_M_take_115 ?_
      refine yc_i (yV (As := [.int (v6 + (1 : Int32)), .long ((z6.2 40 v5.toNatClampNeg) + (x9.toInt64 * x11))]) (rest := []) E (c_M_find _ _ _ _ hP) (cw_M_137 hE) (yrv_31 hE hW) (by decide) hW hl.1 rfl rfl rfl d_M_take_116) hW (fun x13 z12 H locs hP hW => ?_)
      refine lv_istore (lv' := [(8, .int x13), (7, .int x9), (3, .long x8), (0, .ref (ha G 31)), (5, .int v5), (6, .int v6)]) hx hb d_M_take_119 hl (by decide) rfl (fun ls hl => ?_)
      refine lv_goto (tgt := 42) hx hb d_M_take_121 rfl ?_
      exact ih _ _ _ _ _ _ _ _ _ hP (lv_sub hl [3, 2, 4, 5, 1, 0] rfl) hW
set_option maxHeartbeats 4000000 in
set_option maxRecDepth 100000 in
theorem wJ_M_take_146 {K13 : Int64 → Int32 → Int32 → St → Prop} {Q : St → Prop} (E : En p l s m meth c args cc_M_take 9 R_M none G)
    (hK13 : ∀ (v3 : Int64) (v5 : Int32) (v6 : Int32) (z0 : St) (ls : Array Slot) (H : Heap) (locs : List Loc), K13 v3 v5 v6 z0 → lv_has ls 9 [(0, .ref (ha G 31)), (3, .long v3), (5, .int v5), (6, .int v6)] → Wd G z0 s.heap H locs → W p l e rm_M_take s m args below meth c H locs 0 0 (MQ below (QvR Q G) args s 0 0 (fr G)) (F0 m 13 ls []))
    (v3 : Int64) (v6 : Int32) (v7 : Int32) (v8 : Int32) (z0 : St) (ls : Array Slot) (H : Heap) (locs : List Loc) (hP : J_M_take_146 K13 Q v3 v6 v7 v8 z0) (hl : lv_has ls 9 [(0, .ref (ha G 31)), (3, .long v3), (6, .int v6), (7, .int v7), (8, .int v8)]) (hW : Wd G z0 s.heap H locs) : W p l e rm_M_take s m args below meth c H locs 0 0 (MQ below (QvR Q G) args s 0 0 (fr G)) (F0 m 146 ls []) := by
  obtain ⟨hx, hb, hml, hown, hr, hlk, hex, hE⟩ := id E
  refine lv_iload hx hb d_M_take_146 (lv_at hl 3 rfl) ?_
  refine lv_if_le (tgt := 163) hx hb d_M_take_148 rfl (fun hc => ?_) (fun hc => ?_)
  · have hP := hP.1 hc
    refine lv_lload_n hx hb d_M_take_163 rfl (lv_at hl 1 rfl) ?_
    refine lv_lstore_n (lv' := [(3, .long v3), (0, .ref (ha G 31)), (6, .int v6), (7, .int v7), (8, .int v8)]) hx hb d_M_take_164 rfl hl (by decide) rfl (fun ls hl => ?_)
    refine lv_iload hx hb d_M_take_165 (lv_at hl 4 rfl) ?_
    refine lv_istore (lv' := [(5, .int v8), (3, .long v3), (0, .ref (ha G 31)), (6, .int v6), (7, .int v7), (8, .int v8)]) hx hb d_M_take_167 hl (by decide) rfl (fun ls hl => ?_)
    obtain ⟨x19, e_x19⟩ : ∃ z : Int32, z = v6 + 1 := ⟨_, rfl⟩
    have hP := hP x19 e_x19
    refine lv_iinc (k := 3) (lv' := [(6, .int x19), (5, .int v8), (3, .long v3), (0, .ref (ha G 31)), (7, .int v7), (8, .int v8)]) hx hb d_M_take_169 hl rfl (ii_p1 e_x19) (by decide) rfl (fun ls hl => ?_)
    refine lv_goto (tgt := 13) hx hb d_M_take_172 rfl ?_
    exact hK13 _ _ _ _ _ _ _ hP (lv_sub hl [3, 2, 1, 0] rfl) hW
  · have hP := hP.2 hc
    refine lv_lload_n hx hb d_M_take_151 rfl (lv_at hl 1 rfl) ?_
    refine lv_aload_n hx hb d_M_take_152 rfl (lv_at hl 0 rfl) ?_
    refine ygf_31_16 hx hb hown hE hW (lk_M_43 hE) d_M_take_153 ?_
    refine lv_iload hx hb d_M_take_156 (lv_at hl 4 rfl) ?_
    refine ya_41 hx hb hE hW hP.1 d_M_take_158 ?_
    have hP := hP.2
    refine lv_lrem hx hb d_M_take_159 hP.1 ?_
    have hP := hP.2
    refine lv_goto (tgt := 164) hx hb d_M_take_160 rfl ?_
    refine lv_topl (fun x20 e_x20 => ?_)
    have hP := hP x20 e_x20
    refine lv_lstore_n (lv' := [(3, .long x20), (0, .ref (ha G 31)), (6, .int v6), (7, .int v7), (8, .int v8)]) hx hb d_M_take_164 rfl hl (by decide) rfl (fun ls hl => ?_)
    refine lv_iload hx hb d_M_take_165 (lv_at hl 4 rfl) ?_
    refine lv_istore (lv' := [(5, .int v8), (3, .long x20), (0, .ref (ha G 31)), (6, .int v6), (7, .int v7), (8, .int v8)]) hx hb d_M_take_167 hl (by decide) rfl (fun ls hl => ?_)
    obtain ⟨x21, e_x21⟩ : ∃ z : Int32, z = v6 + 1 := ⟨_, rfl⟩
    have hP := hP x21 e_x21
    refine lv_iinc (k := 3) (lv' := [(6, .int x21), (5, .int v8), (3, .long x20), (0, .ref (ha G 31)), (7, .int v7), (8, .int v8)]) hx hb d_M_take_169 hl rfl (ii_p1 e_x21) (by decide) rfl (fun ls hl => ?_)
    refine lv_goto (tgt := 13) hx hb d_M_take_172 rfl ?_
    exact hK13 _ _ _ _ _ _ _ hP (lv_sub hl [3, 2, 1, 0] rfl) hW
set_option maxHeartbeats 4000000 in
set_option maxRecDepth 100000 in
theorem wL_M_take_13 {Q : St → Prop} (E : En p l s m meth c args cc_M_take 9 R_M none G) :
    ∀ (n : Nat) (v3 : Int64) (v5 : Int32) (v6 : Int32) (z0 : St) (ls : Array Slot) (H : Heap) (locs : List Loc), L_M_take_13 Q n v3 v5 v6 z0 → lv_has ls 9 [(0, .ref (ha G 31)), (3, .long v3), (5, .int v5), (6, .int v6)] → Wd G z0 s.heap H locs → W p l e rm_M_take s m args below meth c H locs 0 0 (MQ below (QvR Q G) args s 0 0 (fr G)) (F0 m 13 ls []) := by
  obtain ⟨hx, hb, hml, hown, hr, hlk, hex, hE⟩ := id E
  intro n
  induction n with
  | zero => exact fun _ _ _ _ _ _ _ hP _ _ => hP.elim
  | succ n ih =>
    intro v3 v5 v6 z0 ls H locs hP hl hW
    refine lv_iload hx hb d_M_take_13 (lv_at hl 3 rfl) ?_
    refine lv_aload_n hx hb d_M_take_15 rfl (lv_at hl 0 rfl) ?_
    refine ygf_31_8 hx hb hown hE hW (lk_M_73 hE) d_M_take_16 ?_
    refine lv_icmp_ge (tgt := 175) hx hb d_M_take_19 rfl (fun hc => ?_) (fun hc => ?_)
    · have hP := hP.1 hc
      exact yr_v hx hb hr hlk hW hP d_M_take_175
    · have hP := hP.2 hc
      refine lv_iconst (v := 0) hx hb d_M_take_22 (by decide) ?_
      refine lv_istore (lv' := [(7, .int (0 : Int32)), (0, .ref (ha G 31)), (3, .long v3), (5, .int v5), (6, .int v6)]) hx hb d_M_take_23 hl (by decide) rfl (fun ls hl => ?_)
      refine lv_aload_n hx hb d_M_take_25 rfl (lv_at hl 1 rfl) ?_
      refine lv_iload hx hb d_M_take_26 (lv_at hl 4 rfl) ?_
      refine lv_iconst (v := 1) hx hb d_M_take_28 (by decide) ?_
      refine lv_iadd hx hb d_M_take_29 ?_
      refine lv_aload_n hx hb d_M_take_30 rfl (lv_at hl 1 rfl) ?_
      refine ygf_31_15 hx hb hown hE hW (lk_M_39 hE) d_M_take_31 ?_
      refine lv_iload hx hb d_M_take_34 (lv_at hl 3 rfl) ?_
      refine ya_40 hx hb hE hW hP.1 d_M_take_36 ?_
      have hP := hP.2
      refine yc_i (yV (As := [.int (v6 + (1 : Int32)), .long (z0.2 40 v5.toNatClampNeg)]) (rest := []) E (c_M_find _ _ _ _ hP) (cw_M_137 hE) (yrv_31 hE hW) (by decide) hW hl.1 rfl rfl rfl d_M_take_37) hW (fun x3 z2 H locs hP hW => ?_)
      refine lv_istore (lv' := [(8, .int x3), (7, .int (0 : Int32)), (0, .ref (ha G 31)), (3, .long v3), (5, .int v5), (6, .int v6)]) hx hb d_M_take_40 hl (by decide) rfl (fun ls hl => ?_)
      obtain ⟨n2, hP⟩ := hP
      refine wL_M_take_42 E ?_ n2 _ _ _ _ _ _ _ _ _ hP (lv_sub hl [2, 3, 4, 5, 1, 0] rfl) hW
      · intro x14 x15 x16 x17 z18 ls H locs hP hl hW
        refine lv_iload hx hb d_M_take_124 (lv_at hl 3 rfl) ?_
        refine lv_if_le (tgt := 146) hx hb d_M_take_126 rfl (fun hc => ?_) (fun hc => ?_)
        · have hP := hP.1 hc
          exact wJ_M_take_146 E ih _ _ _ _ _ _ _ _ hP hl hW
        · have hP := hP.2 hc
          refine lv_aload_n hx hb d_M_take_129 rfl (lv_at hl 0 rfl) ?_
          refine lv_iload hx hb d_M_take_130 (lv_at hl 2 rfl) ?_
          refine lv_iload hx hb d_M_take_132 (lv_at hl 3 rfl) ?_
          refine lv_lload_n hx hb d_M_take_134 rfl (lv_at hl 1 rfl) ?_
          refine lv_aload_n hx hb d_M_take_135 rfl (lv_at hl 0 rfl) ?_
          refine ygf_31_16 hx hb hown hE hW (lk_M_43 hE) d_M_take_136 ?_
          refine lv_iload hx hb d_M_take_139 (lv_at hl 4 rfl) ?_
          refine ya_41 hx hb hE hW hP.1 d_M_take_141 ?_
          have hP := hP.2
          refine lv_ldiv hx hb d_M_take_142 hP.1 ?_
          have hP := hP.2
          refine yc_v (yV (As := [.int x15, .int x16, .long (x14 / (z18.2 41 x17.toNatClampNeg))]) (rest := []) E (c_M_rows _ _ _ _ _ hP) (cw_M_170 hE) (yrv_31 hE hW) (by decide) hW hl.1 rfl rfl rfl d_M_take_143) hW (fun z22 H locs hP hW => ?_)
          exact wJ_M_take_146 E ih _ _ _ _ _ _ _ _ hP hl hW
set_option maxHeartbeats 4000000 in
set_option maxRecDepth 100000 in
theorem c_M_take {l : Launch} {G : GG} (a1 : Int64) (z0 : St) (Q : St → Prop) (hP : P_M_take a1 z0 Q) : Ctv l y_M_take cc_M_take 9 none rm_M_take G [.ref (ha G 31), .long a1] z0 Q := by
  refine Ctv.op (own := R_M) (by decide) rfl (Nat.le_of_ble_eq_true rfl) (fun p e s m args below meth c ls E hl hW => ?_)
  obtain ⟨hx, hb, hml, hown, hr, hlk, hex, hE⟩ := id E
  have hl : lv_has ls 9 [(0, .ref (ha G 31)), (1, .long a1)] := hl
  refine lv_lload_n hx hb d_M_take_0 rfl (lv_at hl 1 rfl) ?_
  refine lv_lstore_n (lv' := [(3, .long a1), (0, .ref (ha G 31)), (1, .long a1)]) hx hb d_M_take_1 rfl hl (by decide) rfl (fun ls hl => ?_)
  refine lv_iconst (v := 0) hx hb d_M_take_2 (by decide) ?_
  refine lv_istore (lv' := [(5, .int (0 : Int32)), (3, .long a1), (0, .ref (ha G 31)), (1, .long a1)]) hx hb d_M_take_3 hl (by decide) rfl (fun ls hl => ?_)
  refine lv_aload_n hx hb d_M_take_5 rfl (lv_at hl 2 rfl) ?_
  refine lv_iconst (v := 0) hx hb d_M_take_6 (by decide) ?_
  refine ypf_31_34 hx hb hown hE hW (lk_M_167 hE) d_M_take_7 (fun z1 H locs e_z1 hW => ?_)
  have hP := hP z1 e_z1
  refine lv_iconst (v := 0) hx hb d_M_take_10 (by decide) ?_
  refine lv_istore (lv' := [(6, .int (0 : Int32)), (5, .int (0 : Int32)), (3, .long a1), (0, .ref (ha G 31)), (1, .long a1)]) hx hb d_M_take_11 hl (by decide) rfl (fun ls hl => ?_)
  obtain ⟨n2, hP⟩ := hP
  refine wL_M_take_13 E n2 _ _ _ _ _ _ _ hP (lv_sub hl [3, 2, 1, 0] rfl) hW
theorem d_M_panel_0 : decode cc_M_panel 0 = .ok (.aload_n 0, 1) := by decide +kernel
theorem d_M_panel_1 : decode cc_M_panel 1 = .ok (.iload_n 3, 1) := by decide +kernel
theorem d_M_panel_2 : decode cc_M_panel 2 = .ok (.ifCond .lt 11, 3) := by decide +kernel
theorem d_M_panel_5 : decode cc_M_panel 5 = .ok (.iload_n 3, 1) := by decide +kernel
theorem d_M_panel_6 : decode cc_M_panel 6 = .ok (.aload_n 0, 1) := by decide +kernel
theorem d_M_panel_7 : decode cc_M_panel 7 = .ok (.getfield 26, 3) := by decide +kernel
theorem d_M_panel_10 : decode cc_M_panel 10 = .ok (.if_icmp .lt 7, 3) := by decide +kernel
theorem d_M_panel_13 : decode cc_M_panel 13 = .ok (.iconst 1, 1) := by decide +kernel
theorem d_M_panel_14 : decode cc_M_panel 14 = .ok (.goto 36, 3) := by decide +kernel
theorem d_M_panel_17 : decode cc_M_panel 17 = .ok (.aload_n 0, 1) := by decide +kernel
theorem d_M_panel_18 : decode cc_M_panel 18 = .ok (.invokevirtual 155, 3) := by decide +kernel
theorem d_M_panel_21 : decode cc_M_panel 21 = .ok (.ifCond .ne 7, 3) := by decide +kernel
theorem d_M_panel_24 : decode cc_M_panel 24 = .ok (.iconst 2, 1) := by decide +kernel
theorem d_M_panel_25 : decode cc_M_panel 25 = .ok (.goto 25, 3) := by decide +kernel
theorem d_M_panel_28 : decode cc_M_panel 28 = .ok (.lload_n 1, 1) := by decide +kernel
theorem d_M_panel_29 : decode cc_M_panel 29 = .ok (.lconst 0, 1) := by decide +kernel
theorem d_M_panel_30 : decode cc_M_panel 30 = .ok (.lcmp, 1) := by decide +kernel
theorem d_M_panel_31 : decode cc_M_panel 31 = .ok (.ifCond .lt 14, 3) := by decide +kernel
theorem d_M_panel_34 : decode cc_M_panel 34 = .ok (.lload_n 1, 1) := by decide +kernel
theorem d_M_panel_35 : decode cc_M_panel 35 = .ok (.aload_n 0, 1) := by decide +kernel
theorem d_M_panel_36 : decode cc_M_panel 36 = .ok (.getfield 43, 3) := by decide +kernel
theorem d_M_panel_39 : decode cc_M_panel 39 = .ok (.iconst 0, 1) := by decide +kernel
theorem d_M_panel_40 : decode cc_M_panel 40 = .ok (.laload, 1) := by decide +kernel
theorem d_M_panel_41 : decode cc_M_panel 41 = .ok (.lcmp, 1) := by decide +kernel
theorem d_M_panel_42 : decode cc_M_panel 42 = .ok (.ifCond .lt 7, 3) := by decide +kernel
theorem d_M_panel_45 : decode cc_M_panel 45 = .ok (.iconst 1, 1) := by decide +kernel
theorem d_M_panel_46 : decode cc_M_panel 46 = .ok (.goto 4, 3) := by decide +kernel
theorem d_M_panel_49 : decode cc_M_panel 49 = .ok (.iconst 0, 1) := by decide +kernel
theorem d_M_panel_50 : decode cc_M_panel 50 = .ok (.putfield 70, 3) := by decide +kernel
theorem d_M_panel_53 : decode cc_M_panel 53 = .ok (.aload_n 0, 1) := by decide +kernel
theorem d_M_panel_54 : decode cc_M_panel 54 = .ok (.getfield 70, 3) := by decide +kernel
theorem d_M_panel_57 : decode cc_M_panel 57 = .ok (.ifCond .le 5, 3) := by decide +kernel
theorem d_M_panel_60 : decode cc_M_panel 60 = .ok (.iconst 0, 1) := by decide +kernel
theorem d_M_panel_61 : decode cc_M_panel 61 = .ok (.ireturn, 1) := by decide +kernel
theorem d_M_panel_62 : decode cc_M_panel 62 = .ok (.aload_n 0, 1) := by decide +kernel
theorem d_M_panel_63 : decode cc_M_panel 63 = .ok (.lload_n 1, 1) := by decide +kernel
theorem d_M_panel_64 : decode cc_M_panel 64 = .ok (.invokevirtual 178, 3) := by decide +kernel
theorem d_M_panel_67 : decode cc_M_panel 67 = .ok (.aload_n 0, 1) := by decide +kernel
theorem d_M_panel_68 : decode cc_M_panel 68 = .ok (.getfield 67, 3) := by decide +kernel
theorem d_M_panel_71 : decode cc_M_panel 71 = .ok (.iload_n 3, 1) := by decide +kernel
theorem d_M_panel_72 : decode cc_M_panel 72 = .ok (.iaload, 1) := by decide +kernel
theorem d_M_panel_73 : decode cc_M_panel 73 = .ok (.ireturn, 1) := by decide +kernel
def J_M_panel_50 (Q : Int32 → St → Prop) (v1 : Int64) (v3 : Int32) (t0 : Int32) (z0 : St) : Prop := ∀ z1 : St, z1 = wI z0 31 0 t0 → (((z1.1 31 0) ≤ 0) → P_M_take v1 z1 (fun (z2 : St) => vp_in v3 8 ∧ Q (z2.1 48 v3.toNatClampNeg) z2)) ∧ ((¬ (z1.1 31 0) ≤ 0) → Q (0 : Int32) z1)
def P_M_panel (a1 : Int64) (a3 : Int32) (z0 : St) (Q : Int32 → St → Prop) : Prop := ((a3 < 0) → J_M_panel_50 Q a1 a3 (1 : Int32) z0) ∧ ((¬ a3 < 0) → ((a3 < (z0.1 31 7)) → P_M_counts z0 (fun (x4 : Int32) (z3 : St) => ((¬ x4 = 0) → ((a1 < (0 : Int64)) → J_M_panel_50 Q a1 a3 (1 : Int32) z3) ∧ ((¬ a1 < (0 : Int64)) → vp_in (0 : Int32) 1010 ∧ ((a1 < (z3.2 41 (0 : Int32).toNatClampNeg)) → J_M_panel_50 Q a1 a3 (0 : Int32) z3) ∧ ((¬ a1 < (z3.2 41 (0 : Int32).toNatClampNeg)) → J_M_panel_50 Q a1 a3 (1 : Int32) z3))) ∧ ((x4 = 0) → J_M_panel_50 Q a1 a3 (2 : Int32) z3))) ∧ ((¬ a3 < (z0.1 31 7)) → J_M_panel_50 Q a1 a3 (1 : Int32) z0))
set_option maxHeartbeats 4000000 in
set_option maxRecDepth 100000 in
theorem wJ_M_panel_50 {Q : Int32 → St → Prop} (E : En p l s m meth c args cc_M_panel 4 R_M (some .int) G)
    (v1 : Int64) (v3 : Int32) (t0 : Int32) (z0 : St) (ls : Array Slot) (H : Heap) (locs : List Loc) (hP : J_M_panel_50 Q v1 v3 t0 z0) (hl : lv_has ls 4 [(0, .ref (ha G 31)), (1, .long v1), (3, .int v3)]) (hW : Wd G z0 s.heap H locs) : W p l e rm_M_panel s m args below meth c H locs 0 0 (MQ below (QiR Q G) args s 0 0 (fr G)) (F0 m 50 ls [.int t0, .ref (ha G 31)]) := by
  obtain ⟨hx, hb, hml, hown, hr, hlk, hex, hE⟩ := id E
  refine ypf_31_0 hx hb hown hE hW (lk_M_70 hE) d_M_panel_50 (fun z1 H locs e_z1 hW => ?_)
  have hP := hP z1 e_z1
  refine lv_aload_n hx hb d_M_panel_53 rfl (lv_at hl 0 rfl) ?_
  refine ygf_31_0 hx hb hown hE hW (lk_M_70 hE) d_M_panel_54 ?_
  refine lv_if_le (tgt := 62) hx hb d_M_panel_57 rfl (fun hc => ?_) (fun hc => ?_)
  · have hP := hP.1 hc
    refine lv_aload_n hx hb d_M_panel_62 rfl (lv_at hl 0 rfl) ?_
    refine lv_lload_n hx hb d_M_panel_63 rfl (lv_at hl 1 rfl) ?_
    refine yc_v (yV (As := [.long v1]) (rest := []) E (c_M_take _ _ _ hP) (cw_M_178 hE) (yrv_31 hE hW) (by decide) hW hl.1 rfl rfl rfl d_M_panel_64) hW (fun z2 H locs hP hW => ?_)
    refine lv_aload_n hx hb d_M_panel_67 rfl (lv_at hl 0 rfl) ?_
    refine ygf_31_33 hx hb hown hE hW (lk_M_67 hE) d_M_panel_68 ?_
    refine lv_iload_n hx hb d_M_panel_71 rfl (lv_at hl 2 rfl) ?_
    refine ya_48 hx hb hE hW hP.1 d_M_panel_72 ?_
    have hP := hP.2
    exact yr_i hx hb hr hlk hW hP d_M_panel_73
  · have hP := hP.2 hc
    refine lv_iconst (v := 0) hx hb d_M_panel_60 (by decide) ?_
    exact yr_i hx hb hr hlk hW hP d_M_panel_61
set_option maxHeartbeats 4000000 in
set_option maxRecDepth 100000 in
theorem c_M_panel {l : Launch} {G : GG} (a1 : Int64) (a3 : Int32) (z0 : St) (Q : Int32 → St → Prop) (hP : P_M_panel a1 a3 z0 Q) : Cti l y_M_panel cc_M_panel 4 (some .int) rm_M_panel G [.ref (ha G 31), .long a1, .int a3] z0 Q := by
  refine Cti.op (own := R_M) (by decide) rfl (Nat.le_of_ble_eq_true rfl) (fun p e s m args below meth c ls E hl hW => ?_)
  obtain ⟨hx, hb, hml, hown, hr, hlk, hex, hE⟩ := id E
  have hl : lv_has ls 4 [(0, .ref (ha G 31)), (1, .long a1), (3, .int a3)] := hl
  refine lv_aload_n hx hb d_M_panel_0 rfl (lv_at hl 0 rfl) ?_
  refine lv_iload_n hx hb d_M_panel_1 rfl (lv_at hl 2 rfl) ?_
  refine lv_if_lt (tgt := 13) hx hb d_M_panel_2 rfl (fun hc => ?_) (fun hc => ?_)
  · have hP := hP.1 hc
    refine lv_iconst (v := 1) hx hb d_M_panel_13 (by decide) ?_
    refine lv_goto (tgt := 50) hx hb d_M_panel_14 rfl ?_
    exact wJ_M_panel_50 E _ _ _ _ _ _ _ hP hl hW
  · have hP := hP.2 hc
    refine lv_iload_n hx hb d_M_panel_5 rfl (lv_at hl 2 rfl) ?_
    refine lv_aload_n hx hb d_M_panel_6 rfl (lv_at hl 0 rfl) ?_
    refine ygf_31_7 hx hb hown hE hW (lk_M_26 hE) d_M_panel_7 ?_
    refine lv_icmp_lt (tgt := 17) hx hb d_M_panel_10 rfl (fun hc => ?_) (fun hc => ?_)
    · have hP := hP.1 hc
      refine lv_aload_n hx hb d_M_panel_17 rfl (lv_at hl 0 rfl) ?_
      refine yc_i (yV (As := []) (rest := [.ref (ha G 31)]) E (c_M_counts _ _ hP) (cw_M_155 hE) (yrv_31 hE hW) (by decide) hW hl.1 rfl rfl rfl d_M_panel_18) hW (fun x4 z3 H locs hP hW => ?_)
      refine lv_if_ne (tgt := 28) hx hb d_M_panel_21 rfl (fun hc => ?_) (fun hc => ?_)
      · have hP := hP.1 hc
        refine lv_lload_n hx hb d_M_panel_28 rfl (lv_at hl 1 rfl) ?_
        refine lv_lconst (v := 0) hx hb d_M_panel_29 (by decide) ?_
        refine W.lcmp hx hb d_M_panel_30 ?_
        refine lv_if_lt (tgt := 45) hx hb d_M_panel_31 rfl (fun hc => ?_) (fun hc => ?_)
        · have hP := hP.1 (lgc_ltt hc)
          refine lv_iconst (v := 1) hx hb d_M_panel_45 (by decide) ?_
          refine lv_goto (tgt := 50) hx hb d_M_panel_46 rfl ?_
          exact wJ_M_panel_50 E _ _ _ _ _ _ _ hP hl hW
        · have hP := hP.2 (lgc_ltf hc)
          refine lv_lload_n hx hb d_M_panel_34 rfl (lv_at hl 1 rfl) ?_
          refine lv_aload_n hx hb d_M_panel_35 rfl (lv_at hl 0 rfl) ?_
          refine ygf_31_16 hx hb hown hE hW (lk_M_43 hE) d_M_panel_36 ?_
          refine lv_iconst (v := 0) hx hb d_M_panel_39 (by decide) ?_
          refine ya_41 hx hb hE hW hP.1 d_M_panel_40 ?_
          have hP := hP.2
          refine W.lcmp hx hb d_M_panel_41 ?_
          refine lv_if_lt (tgt := 49) hx hb d_M_panel_42 rfl (fun hc => ?_) (fun hc => ?_)
          · have hP := hP.1 (lgc_ltt hc)
            refine lv_iconst (v := 0) hx hb d_M_panel_49 (by decide) ?_
            exact wJ_M_panel_50 E _ _ _ _ _ _ _ hP hl hW
          · have hP := hP.2 (lgc_ltf hc)
            refine lv_iconst (v := 1) hx hb d_M_panel_45 (by decide) ?_
            refine lv_goto (tgt := 50) hx hb d_M_panel_46 rfl ?_
            exact wJ_M_panel_50 E _ _ _ _ _ _ _ hP hl hW
      · have hP := hP.2 hc
        refine lv_iconst (v := 2) hx hb d_M_panel_24 (by decide) ?_
        refine lv_goto (tgt := 50) hx hb d_M_panel_25 rfl ?_
        exact wJ_M_panel_50 E _ _ _ _ _ _ _ hP hl hW
    · have hP := hP.2 hc
      refine lv_iconst (v := 1) hx hb d_M_panel_13 (by decide) ?_
      refine lv_goto (tgt := 50) hx hb d_M_panel_14 rfl ?_
      exact wJ_M_panel_50 E _ _ _ _ _ _ _ hP hl hW
theorem d_M_mark_0 : decode cc_M_mark 0 = .ok (.aload_n 0, 1) := by decide +kernel
theorem d_M_mark_1 : decode cc_M_mark 1 = .ok (.aload_n 0, 1) := by decide +kernel
theorem d_M_mark_2 : decode cc_M_mark 2 = .ok (.iload_n 1, 1) := by decide +kernel
theorem d_M_mark_3 : decode cc_M_mark 3 = .ok (.invokevirtual 158, 3) := by decide +kernel
theorem d_M_mark_6 : decode cc_M_mark 6 = .ok (.ifCond .eq 7, 3) := by decide +kernel
theorem d_M_mark_9 : decode cc_M_mark 9 = .ok (.iconst 0, 1) := by decide +kernel
theorem d_M_mark_10 : decode cc_M_mark 10 = .ok (.goto 4, 3) := by decide +kernel
theorem d_M_mark_13 : decode cc_M_mark 13 = .ok (.iconst 1, 1) := by decide +kernel
theorem d_M_mark_14 : decode cc_M_mark 14 = .ok (.putfield 70, 3) := by decide +kernel
theorem d_M_mark_17 : decode cc_M_mark 17 = .ok (.aload_n 0, 1) := by decide +kernel
theorem d_M_mark_18 : decode cc_M_mark 18 = .ok (.getfield 70, 3) := by decide +kernel
theorem d_M_mark_21 : decode cc_M_mark 21 = .ok (.ifCond .le 5, 3) := by decide +kernel
theorem d_M_mark_24 : decode cc_M_mark 24 = .ok (.iconst 0, 1) := by decide +kernel
theorem d_M_mark_25 : decode cc_M_mark 25 = .ok (.ireturn, 1) := by decide +kernel
theorem d_M_mark_26 : decode cc_M_mark 26 = .ok (.aload_n 0, 1) := by decide +kernel
theorem d_M_mark_27 : decode cc_M_mark 27 = .ok (.getfield 13, 3) := by decide +kernel
theorem d_M_mark_30 : decode cc_M_mark 30 = .ok (.iload_n 1, 1) := by decide +kernel
theorem d_M_mark_31 : decode cc_M_mark 31 = .ok (.aload_n 0, 1) := by decide +kernel
theorem d_M_mark_32 : decode cc_M_mark 32 = .ok (.getfield 13, 3) := by decide +kernel
theorem d_M_mark_35 : decode cc_M_mark 35 = .ok (.iload_n 1, 1) := by decide +kernel
theorem d_M_mark_36 : decode cc_M_mark 36 = .ok (.baload, 1) := by decide +kernel
theorem d_M_mark_37 : decode cc_M_mark 37 = .ok (.ifCond .ne 7, 3) := by decide +kernel
theorem d_M_mark_40 : decode cc_M_mark 40 = .ok (.iconst 1, 1) := by decide +kernel
theorem d_M_mark_41 : decode cc_M_mark 41 = .ok (.goto 4, 3) := by decide +kernel
theorem d_M_mark_44 : decode cc_M_mark 44 = .ok (.iconst 0, 1) := by decide +kernel
theorem d_M_mark_45 : decode cc_M_mark 45 = .ok (.bastore, 1) := by decide +kernel
theorem d_M_mark_46 : decode cc_M_mark 46 = .ok (.aload_n 0, 1) := by decide +kernel
theorem d_M_mark_47 : decode cc_M_mark 47 = .ok (.getfield 13, 3) := by decide +kernel
theorem d_M_mark_50 : decode cc_M_mark 50 = .ok (.iload_n 1, 1) := by decide +kernel
theorem d_M_mark_51 : decode cc_M_mark 51 = .ok (.baload, 1) := by decide +kernel
theorem d_M_mark_52 : decode cc_M_mark 52 = .ok (.ireturn, 1) := by decide +kernel
def J_M_mark_14 (Q : Int32 → St → Prop) (v1 : Int32) (t0 : Int32) (z0 : St) : Prop := ∀ z3 : St, z3 = wI z0 31 0 t0 → (((z3.1 31 0) ≤ 0) → vp_in v1 40 ∧ ((¬ (z3.1 33 v1.toNatClampNeg) = 0) → vp_in v1 40 ∧ ∀ z4 : St, z4 = wI z3 33 v1.toNatClampNeg (0 : Int32) → vp_in v1 40 ∧ zb (z4.1 33 v1.toNatClampNeg) ∧ Q (z4.1 33 v1.toNatClampNeg) z4) ∧ (((z3.1 33 v1.toNatClampNeg) = 0) → vp_in v1 40 ∧ ∀ z5 : St, z5 = wI z3 33 v1.toNatClampNeg (1 : Int32) → vp_in v1 40 ∧ zb (z5.1 33 v1.toNatClampNeg) ∧ Q (z5.1 33 v1.toNatClampNeg) z5)) ∧ ((¬ (z3.1 31 0) ≤ 0) → Q (0 : Int32) z3)
def P_M_mark (a1 : Int32) (z0 : St) (Q : Int32 → St → Prop) : Prop := P_M_isPerson a1 z0 (fun (x2 : Int32) (z1 : St) => ((x2 = 0) → J_M_mark_14 Q a1 (1 : Int32) z1) ∧ ((¬ x2 = 0) → J_M_mark_14 Q a1 (0 : Int32) z1))
set_option maxHeartbeats 4000000 in
set_option maxRecDepth 100000 in
theorem wJ_M_mark_14 {Q : Int32 → St → Prop} (E : En p l s m meth c args cc_M_mark 2 R_M (some .boolean) G)
    (v1 : Int32) (t0 : Int32) (z0 : St) (ls : Array Slot) (H : Heap) (locs : List Loc) (hP : J_M_mark_14 Q v1 t0 z0) (hl : lv_has ls 2 [(0, .ref (ha G 31)), (1, .int v1)]) (hW : Wd G z0 s.heap H locs) : W p l e rm_M_mark s m args below meth c H locs 0 0 (MQ below (QiR Q G) args s 0 0 (fr G)) (F0 m 14 ls [.int t0, .ref (ha G 31)]) := by
  obtain ⟨hx, hb, hml, hown, hr, hlk, hex, hE⟩ := id E
  refine ypf_31_0 hx hb hown hE hW (lk_M_70 hE) d_M_mark_14 (fun z3 H locs e_z3 hW => ?_)
  have hP := hP z3 e_z3
  refine lv_aload_n hx hb d_M_mark_17 rfl (lv_at hl 0 rfl) ?_
  refine ygf_31_0 hx hb hown hE hW (lk_M_70 hE) d_M_mark_18 ?_
  refine lv_if_le (tgt := 26) hx hb d_M_mark_21 rfl (fun hc => ?_) (fun hc => ?_)
  · have hP := hP.1 hc
    refine lv_aload_n hx hb d_M_mark_26 rfl (lv_at hl 0 rfl) ?_
    refine ygf_31_3 hx hb hown hE hW (lk_M_13 hE) d_M_mark_27 ?_
    refine lv_iload_n hx hb d_M_mark_30 rfl (lv_at hl 1 rfl) ?_
    refine lv_aload_n hx hb d_M_mark_31 rfl (lv_at hl 0 rfl) ?_
    refine ygf_31_3 hx hb hown hE hW (lk_M_13 hE) d_M_mark_32 ?_
    refine lv_iload_n hx hb d_M_mark_35 rfl (lv_at hl 1 rfl) ?_
    refine ya_33 hx hb hE hW hP.1 d_M_mark_36 ?_
    have hP := hP.2
    refine lv_if_ne (tgt := 44) hx hb d_M_mark_37 rfl (fun hc => ?_) (fun hc => ?_)
    · have hP := hP.1 hc
      refine lv_iconst (v := 0) hx hb d_M_mark_44 (by decide) ?_
      refine ys_33 hx hb hE hW zb_0 hP.1 d_M_mark_45 (fun z4 H locs e_z4 hW => ?_)
      have hP := hP.2
      have hP := hP z4 e_z4
      refine lv_aload_n hx hb d_M_mark_46 rfl (lv_at hl 0 rfl) ?_
      refine ygf_31_3 hx hb hown hE hW (lk_M_13 hE) d_M_mark_47 ?_
      refine lv_iload_n hx hb d_M_mark_50 rfl (lv_at hl 1 rfl) ?_
      refine ya_33 hx hb hE hW hP.1 d_M_mark_51 ?_
      have hP := hP.2
      exact yr_z hx hb hr hlk hW hP.1 hP.2 d_M_mark_52
    · have hP := hP.2 hc
      refine lv_iconst (v := 1) hx hb d_M_mark_40 (by decide) ?_
      refine lv_goto (tgt := 45) hx hb d_M_mark_41 rfl ?_
      refine ys_33 hx hb hE hW zb_1 hP.1 d_M_mark_45 (fun z5 H locs e_z5 hW => ?_)
      have hP := hP.2
      have hP := hP z5 e_z5
      refine lv_aload_n hx hb d_M_mark_46 rfl (lv_at hl 0 rfl) ?_
      refine ygf_31_3 hx hb hown hE hW (lk_M_13 hE) d_M_mark_47 ?_
      refine lv_iload_n hx hb d_M_mark_50 rfl (lv_at hl 1 rfl) ?_
      refine ya_33 hx hb hE hW hP.1 d_M_mark_51 ?_
      have hP := hP.2
      exact yr_z hx hb hr hlk hW hP.1 hP.2 d_M_mark_52
  · have hP := hP.2 hc
    refine lv_iconst (v := 0) hx hb d_M_mark_24 (by decide) ?_
    exact yr_z hx hb hr hlk hW zb_0 hP d_M_mark_25
set_option maxHeartbeats 4000000 in
set_option maxRecDepth 100000 in
theorem c_M_mark {l : Launch} {G : GG} (a1 : Int32) (z0 : St) (Q : Int32 → St → Prop) (hP : P_M_mark a1 z0 Q) : Cti l y_M_mark cc_M_mark 2 (some .boolean) rm_M_mark G [.ref (ha G 31), .int a1] z0 Q := by
  refine Cti.op (own := R_M) (by decide) rfl (Nat.le_of_ble_eq_true rfl) (fun p e s m args below meth c ls E hl hW => ?_)
  obtain ⟨hx, hb, hml, hown, hr, hlk, hex, hE⟩ := id E
  have hl : lv_has ls 2 [(0, .ref (ha G 31)), (1, .int a1)] := hl
  refine lv_aload_n hx hb d_M_mark_0 rfl (lv_at hl 0 rfl) ?_
  refine lv_aload_n hx hb d_M_mark_1 rfl (lv_at hl 0 rfl) ?_
  refine lv_iload_n hx hb d_M_mark_2 rfl (lv_at hl 1 rfl) ?_
  refine yc_i (yV (As := [.int a1]) (rest := [.ref (ha G 31)]) E (c_M_isPerson _ _ _ hP) (cw_M_158 hE) (yrv_31 hE hW) (by decide) hW hl.1 rfl rfl rfl d_M_mark_3) hW (fun x2 z1 H locs hP hW => ?_)
  refine lv_if_eq (tgt := 13) hx hb d_M_mark_6 rfl (fun hc => ?_) (fun hc => ?_)
  · have hP := hP.1 hc
    refine lv_iconst (v := 1) hx hb d_M_mark_13 (by decide) ?_
    exact wJ_M_mark_14 E _ _ _ _ _ _ hP hl hW
  · have hP := hP.2 hc
    refine lv_iconst (v := 0) hx hb d_M_mark_9 (by decide) ?_
    refine lv_goto (tgt := 14) hx hb d_M_mark_10 rfl ?_
    exact wJ_M_mark_14 E _ _ _ _ _ _ hP hl hW
theorem d_M_index_0 : decode cc_M_index 0 = .ok (.lconst 0, 1) := by decide +kernel
theorem d_M_index_1 : decode cc_M_index 1 = .ok (.lstore_n 3, 1) := by decide +kernel
theorem d_M_index_2 : decode cc_M_index 2 = .ok (.iload_n 2, 1) := by decide +kernel
theorem d_M_index_3 : decode cc_M_index 3 = .ok (.istore 5, 2) := by decide +kernel
theorem d_M_index_5 : decode cc_M_index 5 = .ok (.iconst 0, 1) := by decide +kernel
theorem d_M_index_6 : decode cc_M_index 6 = .ok (.istore 6, 2) := by decide +kernel
theorem d_M_index_8 : decode cc_M_index 8 = .ok (.iconst 0, 1) := by decide +kernel
theorem d_M_index_9 : decode cc_M_index 9 = .ok (.istore 7, 2) := by decide +kernel
theorem d_M_index_11 : decode cc_M_index 11 = .ok (.iload 7, 2) := by decide +kernel
theorem d_M_index_13 : decode cc_M_index 13 = .ok (.aload_n 0, 1) := by decide +kernel
theorem d_M_index_14 : decode cc_M_index 14 = .ok (.getfield 76, 3) := by decide +kernel
theorem d_M_index_17 : decode cc_M_index 17 = .ok (.if_icmp .ge 72, 3) := by decide +kernel
theorem d_M_index_20 : decode cc_M_index 20 = .ok (.iload 5, 2) := by decide +kernel
theorem d_M_index_22 : decode cc_M_index 22 = .ok (.ifCond .le 67, 3) := by decide +kernel
theorem d_M_index_25 : decode cc_M_index 25 = .ok (.aload_n 0, 1) := by decide +kernel
theorem d_M_index_26 : decode cc_M_index 26 = .ok (.iload 7, 2) := by decide +kernel
theorem d_M_index_28 : decode cc_M_index 28 = .ok (.invokevirtual 79, 3) := by decide +kernel
theorem d_M_index_31 : decode cc_M_index 31 = .ok (.aload_n 0, 1) := by decide +kernel
theorem d_M_index_32 : decode cc_M_index 32 = .ok (.getfield 30, 3) := by decide +kernel
theorem d_M_index_35 : decode cc_M_index 35 = .ok (.iload_n 1, 1) := by decide +kernel
theorem d_M_index_36 : decode cc_M_index 36 = .ok (.iaload, 1) := by decide +kernel
theorem d_M_index_37 : decode cc_M_index 37 = .ok (.if_icmp .eq 6, 3) := by decide +kernel
theorem d_M_index_40 : decode cc_M_index 40 = .ok (.goto 43, 3) := by decide +kernel
theorem d_M_index_43 : decode cc_M_index 43 = .ok (.aload_n 0, 1) := by decide +kernel
theorem d_M_index_44 : decode cc_M_index 44 = .ok (.getfield 13, 3) := by decide +kernel
theorem d_M_index_47 : decode cc_M_index 47 = .ok (.iload 7, 2) := by decide +kernel
theorem d_M_index_49 : decode cc_M_index 49 = .ok (.baload, 1) := by decide +kernel
theorem d_M_index_50 : decode cc_M_index 50 = .ok (.ifCond .eq 9, 3) := by decide +kernel
theorem d_M_index_53 : decode cc_M_index 53 = .ok (.iinc 5 (-1), 3) := by decide +kernel
theorem d_M_index_56 : decode cc_M_index 56 = .ok (.goto 24, 3) := by decide +kernel
theorem d_M_index_59 : decode cc_M_index 59 = .ok (.lload_n 3, 1) := by decide +kernel
theorem d_M_index_60 : decode cc_M_index 60 = .ok (.aload_n 0, 1) := by decide +kernel
theorem d_M_index_61 : decode cc_M_index 61 = .ok (.getfield 33, 3) := by decide +kernel
theorem d_M_index_64 : decode cc_M_index 64 = .ok (.iload_n 1, 1) := by decide +kernel
theorem d_M_index_65 : decode cc_M_index 65 = .ok (.iaload, 1) := by decide +kernel
theorem d_M_index_66 : decode cc_M_index 66 = .ok (.iload 6, 2) := by decide +kernel
theorem d_M_index_68 : decode cc_M_index 68 = .ok (.isub, 1) := by decide +kernel
theorem d_M_index_69 : decode cc_M_index 69 = .ok (.iconst 1, 1) := by decide +kernel
theorem d_M_index_70 : decode cc_M_index 70 = .ok (.isub, 1) := by decide +kernel
theorem d_M_index_71 : decode cc_M_index 71 = .ok (.iload 5, 2) := by decide +kernel
theorem d_M_index_73 : decode cc_M_index 73 = .ok (.iconst 1, 1) := by decide +kernel
theorem d_M_index_74 : decode cc_M_index 74 = .ok (.isub, 1) := by decide +kernel
theorem d_M_index_75 : decode cc_M_index 75 = .ok (.invokestatic 147, 3) := by decide +kernel
theorem d_M_index_78 : decode cc_M_index 78 = .ok (.ladd, 1) := by decide +kernel
theorem d_M_index_79 : decode cc_M_index 79 = .ok (.lstore_n 3, 1) := by decide +kernel
theorem d_M_index_80 : decode cc_M_index 80 = .ok (.iinc 6 1, 3) := by decide +kernel
theorem d_M_index_83 : decode cc_M_index 83 = .ok (.iinc 7 1, 3) := by decide +kernel
theorem d_M_index_86 : decode cc_M_index 86 = .ok (.goto (-75), 3) := by decide +kernel
theorem d_M_index_89 : decode cc_M_index 89 = .ok (.lload_n 3, 1) := by decide +kernel
theorem d_M_index_90 : decode cc_M_index 90 = .ok (.lreturn, 1) := by decide +kernel
def J_M_index_80 (K11 : Int32 → Int64 → Int32 → Int32 → Int32 → St → Prop) (Q : Int64 → St → Prop) (v1 : Int32) (v3 : Int64) (v5 : Int32) (v6 : Int32) (v7 : Int32) (z0 : St) : Prop := ∀ x6 : Int32, x6 = v6 + 1 → ∀ x7 : Int32, x7 = v7 + 1 → K11 v1 v3 v5 x6 x7 z0
def L_M_index_11 (Q : Int64 → St → Prop) : Nat → Int32 → Int64 → Int32 → Int32 → Int32 → St → Prop
  | 0, _, _, _, _, _, _ => False
  | n + 1, v1, v3, v5, v6, v7, z0 => (((z0.1 31 1) ≤ v7) → Q v3 z0) ∧ ((¬ (z0.1 31 1) ≤ v7) → ((v5 ≤ 0) → Q v3 z0) ∧ ((¬ v5 ≤ 0) → P_M_is v7 z0 (fun (x2 : Int32) (z1 : St) => vp_in v1 17 ∧ ((x2 = (z1.1 37 v1.toNatClampNeg)) → vp_in v7 40 ∧ (((z1.1 33 v7.toNatClampNeg) = 0) → vp_in v1 17 ∧ P_M_choose (((z1.1 38 v1.toNatClampNeg) - v6) - (1 : Int32)) (v5 - (1 : Int32)) z1 (fun (x4 : Int64) (z3 : St) => ∀ x5 : Int64, x5 = v3 + x4 → J_M_index_80 (L_M_index_11 Q n) Q v1 x5 v5 v6 v7 z3)) ∧ ((¬ (z1.1 33 v7.toNatClampNeg) = 0) → ∀ x8 : Int32, x8 = v5 - 1 → J_M_index_80 (L_M_index_11 Q n) Q v1 v3 x8 v6 v7 z1)) ∧ ((¬ x2 = (z1.1 37 v1.toNatClampNeg)) → ∀ x9 : Int32, x9 = v7 + 1 → L_M_index_11 Q n v1 v3 v5 v6 x9 z1))))
def P_M_index (a1 : Int32) (a2 : Int32) (z0 : St) (Q : Int64 → St → Prop) : Prop := ∃ k11 : Nat, L_M_index_11 Q k11 a1 (0 : Int64) a2 (0 : Int32) (0 : Int32) z0
set_option maxHeartbeats 4000000 in
set_option maxRecDepth 100000 in
theorem wJ_M_index_80 {K11 : Int32 → Int64 → Int32 → Int32 → Int32 → St → Prop} {Q : Int64 → St → Prop} (E : En p l s m meth c args cc_M_index 8 R_M (some .long) G)
    (hK11 : ∀ (v1 : Int32) (v3 : Int64) (v5 : Int32) (v6 : Int32) (v7 : Int32) (z0 : St) (ls : Array Slot) (H : Heap) (locs : List Loc), K11 v1 v3 v5 v6 v7 z0 → lv_has ls 8 [(0, .ref (ha G 31)), (1, .int v1), (3, .long v3), (5, .int v5), (6, .int v6), (7, .int v7)] → Wd G z0 s.heap H locs → W p l e rm_M_index s m args below meth c H locs 0 0 (MQ below (QlR Q G) args s 0 0 (fr G)) (F0 m 11 ls []))
    (v1 : Int32) (v3 : Int64) (v5 : Int32) (v6 : Int32) (v7 : Int32) (z0 : St) (ls : Array Slot) (H : Heap) (locs : List Loc) (hP : J_M_index_80 K11 Q v1 v3 v5 v6 v7 z0) (hl : lv_has ls 8 [(0, .ref (ha G 31)), (1, .int v1), (3, .long v3), (5, .int v5), (6, .int v6), (7, .int v7)]) (hW : Wd G z0 s.heap H locs) : W p l e rm_M_index s m args below meth c H locs 0 0 (MQ below (QlR Q G) args s 0 0 (fr G)) (F0 m 80 ls []) := by
  obtain ⟨hx, hb, hml, hown, hr, hlk, hex, hE⟩ := id E
  obtain ⟨x6, e_x6⟩ : ∃ z : Int32, z = v6 + 1 := ⟨_, rfl⟩
  have hP := hP x6 e_x6
  refine lv_iinc (k := 4) (lv' := [(6, .int x6), (0, .ref (ha G 31)), (1, .int v1), (3, .long v3), (5, .int v5), (7, .int v7)]) hx hb d_M_index_80 hl rfl (ii_p1 e_x6) (by decide) rfl (fun ls hl => ?_)
  obtain ⟨x7, e_x7⟩ : ∃ z : Int32, z = v7 + 1 := ⟨_, rfl⟩
  have hP := hP x7 e_x7
  refine lv_iinc (k := 5) (lv' := [(7, .int x7), (6, .int x6), (0, .ref (ha G 31)), (1, .int v1), (3, .long v3), (5, .int v5)]) hx hb d_M_index_83 hl rfl (ii_p1 e_x7) (by decide) rfl (fun ls hl => ?_)
  refine lv_goto (tgt := 11) hx hb d_M_index_86 rfl ?_
  exact hK11 _ _ _ _ _ _ _ _ _ hP (lv_sub hl [2, 3, 4, 5, 1, 0] rfl) hW
set_option maxHeartbeats 4000000 in
set_option maxRecDepth 100000 in
theorem wL_M_index_11 {Q : Int64 → St → Prop} (E : En p l s m meth c args cc_M_index 8 R_M (some .long) G) :
    ∀ (n : Nat) (v1 : Int32) (v3 : Int64) (v5 : Int32) (v6 : Int32) (v7 : Int32) (z0 : St) (ls : Array Slot) (H : Heap) (locs : List Loc), L_M_index_11 Q n v1 v3 v5 v6 v7 z0 → lv_has ls 8 [(0, .ref (ha G 31)), (1, .int v1), (3, .long v3), (5, .int v5), (6, .int v6), (7, .int v7)] → Wd G z0 s.heap H locs → W p l e rm_M_index s m args below meth c H locs 0 0 (MQ below (QlR Q G) args s 0 0 (fr G)) (F0 m 11 ls []) := by
  obtain ⟨hx, hb, hml, hown, hr, hlk, hex, hE⟩ := id E
  intro n
  induction n with
  | zero => exact fun _ _ _ _ _ _ _ _ _ hP _ _ => hP.elim
  | succ n ih =>
    intro v1 v3 v5 v6 v7 z0 ls H locs hP hl hW
    refine lv_iload hx hb d_M_index_11 (lv_at hl 5 rfl) ?_
    refine lv_aload_n hx hb d_M_index_13 rfl (lv_at hl 0 rfl) ?_
    refine ygf_31_1 hx hb hown hE hW (lk_M_76 hE) d_M_index_14 ?_
    refine lv_icmp_ge (tgt := 89) hx hb d_M_index_17 rfl (fun hc => ?_) (fun hc => ?_)
    · have hP := hP.1 hc
      refine lv_lload_n hx hb d_M_index_89 rfl (lv_at hl 2 rfl) ?_
      exact yr_l hx hb hr hlk hW hP d_M_index_90
    · have hP := hP.2 hc
      refine lv_iload hx hb d_M_index_20 (lv_at hl 3 rfl) ?_
      refine lv_if_le (tgt := 89) hx hb d_M_index_22 rfl (fun hc => ?_) (fun hc => ?_)
      · have hP := hP.1 hc
        refine lv_lload_n hx hb d_M_index_89 rfl (lv_at hl 2 rfl) ?_
        exact yr_l hx hb hr hlk hW hP d_M_index_90
      · have hP := hP.2 hc
        refine lv_aload_n hx hb d_M_index_25 rfl (lv_at hl 0 rfl) ?_
        refine lv_iload hx hb d_M_index_26 (lv_at hl 5 rfl) ?_
        refine yc_i (yV (As := [.int v7]) (rest := []) E (c_M_is _ _ _ hP) (cw_M_79 hE) (yrv_31 hE hW) (by decide) hW hl.1 rfl rfl rfl d_M_index_28) hW (fun x2 z1 H locs hP hW => ?_)
        refine lv_aload_n hx hb d_M_index_31 rfl (lv_at hl 0 rfl) ?_
        refine ygf_31_9 hx hb hown hE hW (lk_M_30 hE) d_M_index_32 ?_
        refine lv_iload_n hx hb d_M_index_35 rfl (lv_at hl 1 rfl) ?_
        refine ya_37 hx hb hE hW hP.1 d_M_index_36 ?_
        have hP := hP.2
        refine lv_icmp_eq (tgt := 43) hx hb d_M_index_37 rfl (fun hc => ?_) (fun hc => ?_)
        · have hP := hP.1 hc
          refine lv_aload_n hx hb d_M_index_43 rfl (lv_at hl 0 rfl) ?_
          refine ygf_31_3 hx hb hown hE hW (lk_M_13 hE) d_M_index_44 ?_
          refine lv_iload hx hb d_M_index_47 (lv_at hl 5 rfl) ?_
          refine ya_33 hx hb hE hW hP.1 d_M_index_49 ?_
          have hP := hP.2
          refine lv_if_eq (tgt := 59) hx hb d_M_index_50 rfl (fun hc => ?_) (fun hc => ?_)
          · have hP := hP.1 hc
            refine lv_lload_n hx hb d_M_index_59 rfl (lv_at hl 2 rfl) ?_
            refine lv_aload_n hx hb d_M_index_60 rfl (lv_at hl 0 rfl) ?_
            refine ygf_31_10 hx hb hown hE hW (lk_M_33 hE) d_M_index_61 ?_
            refine lv_iload_n hx hb d_M_index_64 rfl (lv_at hl 1 rfl) ?_
            refine ya_38 hx hb hE hW hP.1 d_M_index_65 ?_
            have hP := hP.2
            refine lv_iload hx hb d_M_index_66 (lv_at hl 4 rfl) ?_
            refine lv_isub hx hb d_M_index_68 ?_
            refine lv_iconst (v := 1) hx hb d_M_index_69 (by decide) ?_
            refine lv_isub hx hb d_M_index_70 ?_
            refine lv_iload hx hb d_M_index_71 (lv_at hl 3 rfl) ?_
            refine lv_iconst (v := 1) hx hb d_M_index_73 (by decide) ?_
            refine lv_isub hx hb d_M_index_74 ?_
            refine yc_l (yS (As := [.int (((z1.1 38 v1.toNatClampNeg) - v6) - (1 : Int32)), .int (v5 - (1 : Int32))]) (rest := [.long v3]) E (c_M_choose _ _ _ _ hP) (cw_M_147 hE) (by decide) hW hl.1 rfl rfl rfl d_M_index_75) hW (fun x4 z3 H locs hP hW => ?_)
            refine lv_ladd hx hb d_M_index_78 ?_
            refine lv_topl (fun x5 e_x5 => ?_)
            have hP := hP x5 e_x5
            refine lv_lstore_n (lv' := [(3, .long x5), (0, .ref (ha G 31)), (1, .int v1), (5, .int v5), (6, .int v6), (7, .int v7)]) hx hb d_M_index_79 rfl hl (by decide) rfl (fun ls hl => ?_)
            exact wJ_M_index_80 E ih _ _ _ _ _ _ _ _ _ hP (lv_sub hl [1, 2, 0, 3, 4, 5] rfl) hW
          · have hP := hP.2 hc
            obtain ⟨x8, e_x8⟩ : ∃ z : Int32, z = v5 - 1 := ⟨_, rfl⟩
            have hP := hP x8 e_x8
            refine lv_iinc (k := 3) (lv' := [(5, .int x8), (0, .ref (ha G 31)), (1, .int v1), (3, .long v3), (6, .int v6), (7, .int v7)]) hx hb d_M_index_53 hl rfl (ii_m1 e_x8) (by decide) rfl (fun ls hl => ?_)
            refine lv_goto (tgt := 80) hx hb d_M_index_56 rfl ?_
            exact wJ_M_index_80 E ih _ _ _ _ _ _ _ _ _ hP (lv_sub hl [1, 2, 3, 0, 4, 5] rfl) hW
        · have hP := hP.2 hc
          refine lv_goto (tgt := 83) hx hb d_M_index_40 rfl ?_
          obtain ⟨x9, e_x9⟩ : ∃ z : Int32, z = v7 + 1 := ⟨_, rfl⟩
          have hP := hP x9 e_x9
          refine lv_iinc (k := 5) (lv' := [(7, .int x9), (0, .ref (ha G 31)), (1, .int v1), (3, .long v3), (5, .int v5), (6, .int v6)]) hx hb d_M_index_83 hl rfl (ii_p1 e_x9) (by decide) rfl (fun ls hl => ?_)
          refine lv_goto (tgt := 11) hx hb d_M_index_86 rfl ?_
          exact ih _ _ _ _ _ _ _ _ _ hP (lv_sub hl [1, 2, 3, 4, 5, 0] rfl) hW
set_option maxHeartbeats 4000000 in
set_option maxRecDepth 100000 in
theorem c_M_index {l : Launch} {G : GG} (a1 : Int32) (a2 : Int32) (z0 : St) (Q : Int64 → St → Prop) (hP : P_M_index a1 a2 z0 Q) : Ctl l y_M_index cc_M_index 8 (some .long) rm_M_index G [.ref (ha G 31), .int a1, .int a2] z0 Q := by
  refine Ctl.op (own := R_M) (by decide) rfl (Nat.le_of_ble_eq_true rfl) (fun p e s m args below meth c ls E hl hW => ?_)
  obtain ⟨hx, hb, hml, hown, hr, hlk, hex, hE⟩ := id E
  have hl : lv_has ls 8 [(0, .ref (ha G 31)), (1, .int a1), (2, .int a2)] := hl
  refine lv_lconst (v := 0) hx hb d_M_index_0 (by decide) ?_
  refine lv_lstore_n (lv' := [(3, .long (0 : Int64)), (0, .ref (ha G 31)), (1, .int a1), (2, .int a2)]) hx hb d_M_index_1 rfl hl (by decide) rfl (fun ls hl => ?_)
  refine lv_iload_n hx hb d_M_index_2 rfl (lv_at hl 3 rfl) ?_
  refine lv_istore (lv' := [(5, .int a2), (3, .long (0 : Int64)), (0, .ref (ha G 31)), (1, .int a1), (2, .int a2)]) hx hb d_M_index_3 hl (by decide) rfl (fun ls hl => ?_)
  refine lv_iconst (v := 0) hx hb d_M_index_5 (by decide) ?_
  refine lv_istore (lv' := [(6, .int (0 : Int32)), (5, .int a2), (3, .long (0 : Int64)), (0, .ref (ha G 31)), (1, .int a1), (2, .int a2)]) hx hb d_M_index_6 hl (by decide) rfl (fun ls hl => ?_)
  refine lv_iconst (v := 0) hx hb d_M_index_8 (by decide) ?_
  refine lv_istore (lv' := [(7, .int (0 : Int32)), (6, .int (0 : Int32)), (5, .int a2), (3, .long (0 : Int64)), (0, .ref (ha G 31)), (1, .int a1), (2, .int a2)]) hx hb d_M_index_9 hl (by decide) rfl (fun ls hl => ?_)
  obtain ⟨n2, hP⟩ := hP
  refine wL_M_index_11 E n2 _ _ _ _ _ _ _ _ _ hP (lv_sub hl [4, 5, 3, 2, 1, 0] rfl) hW
end Code
