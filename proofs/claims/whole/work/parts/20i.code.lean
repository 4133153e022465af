/-! M_work, M_counts, M_count, M_states, M_isPerson, M_kindOf, M_chance, M_kind, M_left -/
section Code
variable {p : Program} {l : Launch} {e : Env} {s : State} {m : MethodId} {args : Array Value} {below : List Frame} {meth : Method} {c : Code} {G : GG}
theorem d_M_work_0 : decode cc_M_work 0 = .ok (.aload_n 0, 1) := by decide +kernel
theorem d_M_work_1 : decode cc_M_work 1 = .ok (.invokevirtual 141, 3) := by decide +kernel
theorem d_M_work_4 : decode cc_M_work 4 = .ok (.aload_n 0, 1) := by decide +kernel
theorem d_M_work_5 : decode cc_M_work 5 = .ok (.getfield 123, 3) := by decide +kernel
theorem d_M_work_8 : decode cc_M_work 8 = .ok (.ifCond .eq 4, 3) := by decide +kernel
theorem d_M_work_11 : decode cc_M_work 11 = .ok (.return_, 1) := by decide +kernel
theorem d_M_work_12 : decode cc_M_work 12 = .ok (.aload_n 0, 1) := by decide +kernel
theorem d_M_work_13 : decode cc_M_work 13 = .ok (.getfield 73, 3) := by decide +kernel
theorem d_M_work_16 : decode cc_M_work 16 = .ok (.istore_n 2, 1) := by decide +kernel
theorem d_M_work_17 : decode cc_M_work 17 = .ok (.iload_n 2, 1) := by decide +kernel
theorem d_M_work_18 : decode cc_M_work 18 = .ok (.ifCond .lt 185, 3) := by decide +kernel
theorem d_M_work_21 : decode cc_M_work 21 = .ok (.aload_n 0, 1) := by decide +kernel
theorem d_M_work_22 : decode cc_M_work 22 = .ok (.getfield 36, 3) := by decide +kernel
theorem d_M_work_25 : decode cc_M_work 25 = .ok (.iload_n 2, 1) := by decide +kernel
theorem d_M_work_26 : decode cc_M_work 26 = .ok (.iaload, 1) := by decide +kernel
theorem d_M_work_27 : decode cc_M_work 27 = .ok (.istore_n 3, 1) := by decide +kernel
theorem d_M_work_28 : decode cc_M_work 28 = .ok (.iload_n 3, 1) := by decide +kernel
theorem d_M_work_29 : decode cc_M_work 29 = .ok (.aload_n 0, 1) := by decide +kernel
theorem d_M_work_30 : decode cc_M_work 30 = .ok (.getfield 36, 3) := by decide +kernel
theorem d_M_work_33 : decode cc_M_work 33 = .ok (.iload_n 2, 1) := by decide +kernel
theorem d_M_work_34 : decode cc_M_work 34 = .ok (.iconst 1, 1) := by decide +kernel
theorem d_M_work_35 : decode cc_M_work 35 = .ok (.iadd, 1) := by decide +kernel
theorem d_M_work_36 : decode cc_M_work 36 = .ok (.iaload, 1) := by decide +kernel
theorem d_M_work_37 : decode cc_M_work 37 = .ok (.if_icmp .ge 160, 3) := by decide +kernel
theorem d_M_work_40 : decode cc_M_work 40 = .ok (.iload_n 2, 1) := by decide +kernel
theorem d_M_work_41 : decode cc_M_work 41 = .ok (.aload_n 0, 1) := by decide +kernel
theorem d_M_work_42 : decode cc_M_work 42 = .ok (.getfield 73, 3) := by decide +kernel
theorem d_M_work_45 : decode cc_M_work 45 = .ok (.if_icmp .ne 20, 3) := by decide +kernel
theorem d_M_work_48 : decode cc_M_work 48 = .ok (.aload_n 0, 1) := by decide +kernel
theorem d_M_work_49 : decode cc_M_work 49 = .ok (.aload_n 0, 1) := by decide +kernel
theorem d_M_work_50 : decode cc_M_work 50 = .ok (.getfield 39, 3) := by decide +kernel
theorem d_M_work_53 : decode cc_M_work 53 = .ok (.iload_n 3, 1) := by decide +kernel
theorem d_M_work_54 : decode cc_M_work 54 = .ok (.laload, 1) := by decide +kernel
theorem d_M_work_55 : decode cc_M_work 55 = .ok (.invokevirtual 144, 3) := by decide +kernel
theorem d_M_work_58 : decode cc_M_work 58 = .ok (.ifCond .eq 7, 3) := by decide +kernel
theorem d_M_work_61 : decode cc_M_work 61 = .ok (.lconst 1, 1) := by decide +kernel
theorem d_M_work_62 : decode cc_M_work 62 = .ok (.goto 4, 3) := by decide +kernel
theorem d_M_work_65 : decode cc_M_work 65 = .ok (.lconst 0, 1) := by decide +kernel
theorem d_M_work_66 : decode cc_M_work 66 = .ok (.lstore 4, 2) := by decide +kernel
theorem d_M_work_68 : decode cc_M_work 68 = .ok (.iconst 0, 1) := by decide +kernel
theorem d_M_work_69 : decode cc_M_work 69 = .ok (.istore 6, 2) := by decide +kernel
theorem d_M_work_71 : decode cc_M_work 71 = .ok (.iload_n 2, 1) := by decide +kernel
theorem d_M_work_72 : decode cc_M_work 72 = .ok (.aload_n 0, 1) := by decide +kernel
theorem d_M_work_73 : decode cc_M_work 73 = .ok (.getfield 73, 3) := by decide +kernel
theorem d_M_work_76 : decode cc_M_work 76 = .ok (.if_icmp .ge 107, 3) := by decide +kernel
theorem d_M_work_79 : decode cc_M_work 79 = .ok (.iload 6, 2) := by decide +kernel
theorem d_M_work_81 : decode cc_M_work 81 = .ok (.aload_n 0, 1) := by decide +kernel
theorem d_M_work_82 : decode cc_M_work 82 = .ok (.getfield 33, 3) := by decide +kernel
theorem d_M_work_85 : decode cc_M_work 85 = .ok (.iload_n 2, 1) := by decide +kernel
theorem d_M_work_86 : decode cc_M_work 86 = .ok (.iaload, 1) := by decide +kernel
theorem d_M_work_87 : decode cc_M_work 87 = .ok (.if_icmp .gt 96, 3) := by decide +kernel
theorem d_M_work_90 : decode cc_M_work 90 = .ok (.iload 6, 2) := by decide +kernel
theorem d_M_work_92 : decode cc_M_work 92 = .ok (.bipush 8, 2) := by decide +kernel
theorem d_M_work_94 : decode cc_M_work 94 = .ok (.if_icmp .gt 89, 3) := by decide +kernel
theorem d_M_work_97 : decode cc_M_work 97 = .ok (.aload_n 0, 1) := by decide +kernel
theorem d_M_work_98 : decode cc_M_work 98 = .ok (.iload_n 2, 1) := by decide +kernel
theorem d_M_work_99 : decode cc_M_work 99 = .ok (.iconst 1, 1) := by decide +kernel
theorem d_M_work_100 : decode cc_M_work 100 = .ok (.iadd, 1) := by decide +kernel
theorem d_M_work_101 : decode cc_M_work 101 = .ok (.aload_n 0, 1) := by decide +kernel
theorem d_M_work_102 : decode cc_M_work 102 = .ok (.getfield 39, 3) := by decide +kernel
theorem d_M_work_105 : decode cc_M_work 105 = .ok (.iload_n 3, 1) := by decide +kernel
theorem d_M_work_106 : decode cc_M_work 106 = .ok (.laload, 1) := by decide +kernel
theorem d_M_work_107 : decode cc_M_work 107 = .ok (.iload 6, 2) := by decide +kernel
theorem d_M_work_109 : decode cc_M_work 109 = .ok (.i2l, 1) := by decide +kernel
theorem d_M_work_110 : decode cc_M_work 110 = .ok (.aload_n 0, 1) := by decide +kernel
theorem d_M_work_111 : decode cc_M_work 111 = .ok (.iload_n 2, 1) := by decide +kernel
theorem d_M_work_112 : decode cc_M_work 112 = .ok (.invokevirtual 133, 3) := by decide +kernel
theorem d_M_work_115 : decode cc_M_work 115 = .ok (.lmul, 1) := by decide +kernel
theorem d_M_work_116 : decode cc_M_work 116 = .ok (.ladd, 1) := by decide +kernel
theorem d_M_work_117 : decode cc_M_work 117 = .ok (.invokevirtual 137, 3) := by decide +kernel
theorem d_M_work_120 : decode cc_M_work 120 = .ok (.istore 7, 2) := by decide +kernel
theorem d_M_work_122 : decode cc_M_work 122 = .ok (.iload 7, 2) := by decide +kernel
theorem d_M_work_124 : decode cc_M_work 124 = .ok (.ifCond .ge 6, 3) := by decide +kernel
theorem d_M_work_127 : decode cc_M_work 127 = .ok (.goto 56, 3) := by decide +kernel
theorem d_M_work_130 : decode cc_M_work 130 = .ok (.lload 4, 2) := by decide +kernel
theorem d_M_work_132 : decode cc_M_work 132 = .ok (.aload_n 0, 1) := by decide +kernel
theorem d_M_work_133 : decode cc_M_work 133 = .ok (.getfield 43, 3) := by decide +kernel
theorem d_M_work_136 : decode cc_M_work 136 = .ok (.iload 7, 2) := by decide +kernel
theorem d_M_work_138 : decode cc_M_work 138 = .ok (.laload, 1) := by decide +kernel
theorem d_M_work_139 : decode cc_M_work 139 = .ok (.iload_n 2, 1) := by decide +kernel
theorem d_M_work_140 : decode cc_M_work 140 = .ok (.iload_n 1, 1) := by decide +kernel
theorem d_M_work_141 : decode cc_M_work 141 = .ok (.if_icmp .ne 21, 3) := by decide +kernel
theorem d_M_work_144 : decode cc_M_work 144 = .ok (.aload_n 0, 1) := by decide +kernel
theorem d_M_work_145 : decode cc_M_work 145 = .ok (.getfield 33, 3) := by decide +kernel
theorem d_M_work_148 : decode cc_M_work 148 = .ok (.iload_n 2, 1) := by decide +kernel
theorem d_M_work_149 : decode cc_M_work 149 = .ok (.iaload, 1) := by decide +kernel
theorem d_M_work_150 : decode cc_M_work 150 = .ok (.iconst 1, 1) := by decide +kernel
theorem d_M_work_151 : decode cc_M_work 151 = .ok (.isub, 1) := by decide +kernel
theorem d_M_work_152 : decode cc_M_work 152 = .ok (.iload 6, 2) := by decide +kernel
theorem d_M_work_154 : decode cc_M_work 154 = .ok (.iconst 1, 1) := by decide +kernel
theorem d_M_work_155 : decode cc_M_work 155 = .ok (.isub, 1) := by decide +kernel
theorem d_M_work_156 : decode cc_M_work 156 = .ok (.invokestatic 147, 3) := by decide +kernel
theorem d_M_work_159 : decode cc_M_work 159 = .ok (.goto 14, 3) := by decide +kernel
theorem d_M_work_162 : decode cc_M_work 162 = .ok (.aload_n 0, 1) := by decide +kernel
theorem d_M_work_163 : decode cc_M_work 163 = .ok (.getfield 33, 3) := by decide +kernel
theorem d_M_work_166 : decode cc_M_work 166 = .ok (.iload_n 2, 1) := by decide +kernel
theorem d_M_work_167 : decode cc_M_work 167 = .ok (.iaload, 1) := by decide +kernel
theorem d_M_work_168 : decode cc_M_work 168 = .ok (.iload 6, 2) := by decide +kernel
theorem d_M_work_170 : decode cc_M_work 170 = .ok (.invokestatic 147, 3) := by decide +kernel
theorem d_M_work_173 : decode cc_M_work 173 = .ok (.lmul, 1) := by decide +kernel
theorem d_M_work_174 : decode cc_M_work 174 = .ok (.ladd, 1) := by decide +kernel
theorem d_M_work_175 : decode cc_M_work 175 = .ok (.lstore 4, 2) := by decide +kernel
theorem d_M_work_177 : decode cc_M_work 177 = .ok (.iinc 6 1, 3) := by decide +kernel
theorem d_M_work_180 : decode cc_M_work 180 = .ok (.goto (-109), 3) := by decide +kernel
theorem d_M_work_183 : decode cc_M_work 183 = .ok (.aload_n 0, 1) := by decide +kernel
theorem d_M_work_184 : decode cc_M_work 184 = .ok (.getfield 43, 3) := by decide +kernel
theorem d_M_work_187 : decode cc_M_work 187 = .ok (.iload_n 3, 1) := by decide +kernel
theorem d_M_work_188 : decode cc_M_work 188 = .ok (.lload 4, 2) := by decide +kernel
theorem d_M_work_190 : decode cc_M_work 190 = .ok (.lastore, 1) := by decide +kernel
theorem d_M_work_191 : decode cc_M_work 191 = .ok (.iinc 3 1, 3) := by decide +kernel
theorem d_M_work_194 : decode cc_M_work 194 = .ok (.goto (-166), 3) := by decide +kernel
theorem d_M_work_197 : decode cc_M_work 197 = .ok (.iinc 2 (-1), 3) := by decide +kernel
theorem d_M_work_200 : decode cc_M_work 200 = .ok (.goto (-183), 3) := by decide +kernel
theorem d_M_work_203 : decode cc_M_work 203 = .ok (.return_, 1) := by decide +kernel
def L_M_work_71 (K127 : Int32 → Int32 → Int32 → Int64 → St → Prop) (K183 : Int32 → Int32 → Int32 → Int64 → St → Prop) (Q : St → Prop) : Nat → Int32 → Int32 → Int32 → Int64 → Int32 → St → Prop
  | 0, _, _, _, _, _, _ => False
  | n + 1, v1, v2, v3, v4, v6, z0 => (((z0.1 31 8) ≤ v2) → K183 v1 v2 v3 v4 z0) ∧ ((¬ (z0.1 31 8) ≤ v2) → vp_in v2 17 ∧ (((z0.1 38 v2.toNatClampNeg) < v6) → K183 v1 v2 v3 v4 z0) ∧ ((¬ (z0.1 38 v2.toNatClampNeg) < v6) → (((8 : Int32) < v6) → K183 v1 v2 v3 v4 z0) ∧ ((¬ (8 : Int32) < v6) → vp_in v3 1010 ∧ P_M_adds v2 z0 (fun (x5 : Int64) (z4 : St) => P_M_find (v2 + (1 : Int32)) ((z0.2 40 v3.toNatClampNeg) + (v6.toInt64 * x5)) z4 (fun (x7 : Int32) (z6 : St) => ((0 ≤ x7) → vp_in x7 1010 ∧ ((¬ v2 = v1) → vp_in v2 17 ∧ P_M_choose (z6.1 38 v2.toNatClampNeg) v6 z6 (fun (x9 : Int64) (z8 : St) => ∀ x10 : Int64, x10 = v4 + ((z6.2 41 x7.toNatClampNeg) * x9) → ∀ x11 : Int32, x11 = v6 + 1 → L_M_work_71 K127 K183 Q n v1 v2 v3 x10 x11 z8)) ∧ ((v2 = v1) → vp_in v2 17 ∧ P_M_choose ((z6.1 38 v2.toNatClampNeg) - (1 : Int32)) (v6 - (1 : Int32)) z6 (fun (x13 : Int64) (z12 : St) => ∀ x14 : Int64, x14 = v4 + ((z6.2 41 x7.toNatClampNeg) * x13) → ∀ x15 : Int32, x15 = v6 + 1 → L_M_work_71 K127 K183 Q n v1 v2 v3 x14 x15 z12))) ∧ ((¬ 0 ≤ x7) → K127 v1 v2 v3 v4 z6))))))
def J_M_work_65 (K28 : Int32 → Int32 → Int32 → St → Prop) (K197 : Int32 → Int32 → St → Prop) (Q : St → Prop) (v1 : Int32) (v2 : Int32) (v3 : Int32) (z0 : St) : Prop := ∃ k71 : Nat, L_M_work_71 (fun (x16 : Int32) (x17 : Int32) (x18 : Int32) (x19 : Int64) (z20 : St) => vp_in x18 1010 ∧ ∀ z26 : St, z26 = wL z20 41 x18.toNatClampNeg x19 → ∀ x27 : Int32, x27 = x18 + 1 → K28 x16 x17 x27 z26) (fun (x21 : Int32) (x22 : Int32) (x23 : Int32) (x24 : Int64) (z25 : St) => vp_in x23 1010 ∧ ∀ z28 : St, z28 = wL z25 41 x23.toNatClampNeg x24 → ∀ x29 : Int32, x29 = x23 + 1 → K28 x21 x22 x29 z28) Q k71 v1 v2 v3 (0 : Int64) (0 : Int32) z0
def L_M_work_28 (K197 : Int32 → Int32 → St → Prop) (Q : St → Prop) : Nat → Int32 → Int32 → Int32 → St → Prop
  | 0, _, _, _, _ => False
  | n + 1, v1, v2, v3, z0 => vp_in (v2 + (1 : Int32)) 18 ∧ (((z0.1 39 (v2 + (1 : Int32)).toNatClampNeg) ≤ v3) → K197 v1 v2 z0) ∧ ((¬ (z0.1 39 (v2 + (1 : Int32)).toNatClampNeg) ≤ v3) → ((¬ v2 = (z0.1 31 8)) → J_M_work_65 (L_M_work_28 K197 Q n) K197 Q v1 v2 v3 z0) ∧ ((v2 = (z0.1 31 8)) → vp_in v3 1010 ∧ P_M_isPanel (z0.2 40 v3.toNatClampNeg) z0 (fun (x31 : Int32) (z30 : St) => ((x31 = 0) → J_M_work_65 (L_M_work_28 K197 Q n) K197 Q v1 v2 v3 z30) ∧ ((¬ x31 = 0) → ∃ k71 : Nat, L_M_work_71 (fun (x32 : Int32) (x33 : Int32) (x34 : Int32) (x35 : Int64) (z36 : St) => vp_in x34 1010 ∧ ∀ z42 : St, z42 = wL z36 41 x34.toNatClampNeg x35 → ∀ x43 : Int32, x43 = x34 + 1 → L_M_work_28 K197 Q n x32 x33 x43 z42) (fun (x37 : Int32) (x38 : Int32) (x39 : Int32) (x40 : Int64) (z41 : St) => vp_in x39 1010 ∧ ∀ z44 : St, z44 = wL z41 41 x39.toNatClampNeg x40 → ∀ x45 : Int32, x45 = x39 + 1 → L_M_work_28 K197 Q n x37 x38 x45 z44) Q k71 v1 v2 v3 (1 : Int64) (0 : Int32) z30))))
def L_M_work_17 (Q : St → Prop) : Nat → Int32 → Int32 → St → Prop
  | 0, _, _, _ => False
  | n + 1, v1, v2, z0 => ((v2 < 0) → Q z0) ∧ ((¬ v2 < 0) → vp_in v2 18 ∧ ∀ x3 : Int32, x3 = (z0.1 39 v2.toNatClampNeg) → ∃ k28 : Nat, L_M_work_28 (fun (x46 : Int32) (x47 : Int32) (z48 : St) => ∀ x49 : Int32, x49 = x47 - 1 → L_M_work_17 Q n x46 x49 z48) Q k28 v1 v2 x3 z0)
def P_M_work (a1 : Int32) (z0 : St) (Q : St → Prop) : Prop := P_M_list z0 (fun (z1 : St) => (((z1.1 31 12) = 0) → ∀ x2 : Int32, x2 = (z1.1 31 8) → ∃ k17 : Nat, L_M_work_17 Q k17 a1 x2 z1) ∧ ((¬ (z1.1 31 12) = 0) → Q z1))
set_option maxHeartbeats 4000000 in
set_option maxRecDepth 100000 in
theorem wL_M_work_71 {K127 : Int32 → Int32 → Int32 → Int64 → St → Prop} {K183 : Int32 → Int32 → Int32 → Int64 → St → Prop} {Q : St → Prop} (E : En p l s m meth c args cc_M_work 8 R_M none G)
    (hK127 : ∀ (v1 : Int32) (v2 : Int32) (v3 : Int32) (v4 : Int64) (z0 : St) (ls : Array Slot) (H : Heap) (locs : List Loc), K127 v1 v2 v3 v4 z0 → lv_has ls 8 [(0, .ref (ha G 31)), (1, .int v1), (2, .int v2), (3, .int v3), (4, .long v4)] → Wd G z0 s.heap H locs → W p l e rm_M_work s m args below meth c H locs 0 0 (MQ below (QvR Q G) args s 0 0 (fr G)) (F0 m 127 ls []))
    (hK183 : ∀ (v1 : Int32) (v2 : Int32) (v3 : Int32) (v4 : Int64) (z0 : St) (ls : Array Slot) (H : Heap) (locs : List Loc), K183 v1 v2 v3 v4 z0 → lv_has ls 8 [(0, .ref (ha G 31)), (1, .int v1), (2, .int v2), (3, .int v3), (4, .long v4)] → Wd G z0 s.heap H locs → W p l e rm_M_work s m args below meth c H locs 0 0 (MQ below (QvR Q G) args s 0 0 (fr G)) (F0 m 183 ls [])) :
    ∀ (n : Nat) (v1 : Int32) (v2 : Int32) (v3 : Int32) (v4 : Int64) (v6 : Int32) (z0 : St) (ls : Array Slot) (H : Heap) (locs : List Loc), L_M_work_71 K127 K183 Q n v1 v2 v3 v4 v6 z0 → lv_has ls 8 [(0, .ref (ha G 31)), (1, .int v1), (2, .int v2), (3, .int v3), (4, .long v4), (6, .int v6)] → Wd G z0 s.heap H locs → W p l e rm_M_work s m args below meth c H locs 0 0 (MQ below (QvR Q G) args s 0 0 (fr G)) (F0 m 71 ls []) := by
  obtain ⟨hx, hb, hml, hown, hr, hlk, hex, hE⟩ := id E
  intro n
  induction n with
  | zero => exact fun _ _ _ _ _ _ _ _ _ hP _ _ => hP.elim
  | succ n ih =>
    intro v1 v2 v3 v4 v6 z0 ls H locs hP hl hW
    refine lv_iload_n hx hb d_M_work_71 rfl (lv_at hl 2 rfl) ?_
    refine lv_aload_n hx hb d_M_work_72 rfl (lv_at hl 0 rfl) ?_
    refine ygf_31_8 hx hb hown hE hW (lk_M_73 hE) d_M_work_73 ?_
    refine lv_icmp_ge (tgt := 183) hx hb d_M_work_76 rfl (fun hc => ?_) (fun hc => ?_)
    · have hP := hP.1 hc
      exact hK183 _ _ _ _ _ _ _ _ hP (lv_sub hl [0, 1, 2, 3, 4] rfl) hW
    · have hP := hP.2 hc
      refine lv_iload hx hb d_M_work_79 (lv_at hl 5 rfl) ?_
      refine lv_aload_n hx hb d_M_work_81 rfl (lv_at hl 0 rfl) ?_
      refine ygf_31_10 hx hb hown hE hW (lk_M_33 hE) d_M_work_82 ?_
      refine lv_iload_n hx hb d_M_work_85 rfl (lv_at hl 2 rfl) ?_
      refine ya_38 hx hb hE hW hP.1 d_M_work_86 ?_
      have hP := hP.2
      refine lv_icmp_gt (tgt := 183) hx hb d_M_work_87 rfl (fun hc => ?_) (fun hc => ?_)
      · have hP := hP.1 hc
        exact hK183 _ _ _ _ _ _ _ _ hP (lv_sub hl [0, 1, 2, 3, 4] rfl) hW
      · have hP := hP.2 hc
        refine lv_iload hx hb d_M_work_90 (lv_at hl 5 rfl) ?_
        refine lv_bipush (v := 8) hx hb d_M_work_92 (by decide) ?_
        refine lv_icmp_gt (tgt := 183) hx hb d_M_work_94 rfl (fun hc => ?_) (fun hc => ?_)
        · have hP := hP.1 hc
          exact hK183 _ _ _ _ _ _ _ _ hP (lv_sub hl [0, 1, 2, 3, 4] rfl) hW
        · have hP := hP.2 hc
          refine lv_aload_n hx hb d_M_work_97 rfl (lv_at hl 0 rfl) ?_
          refine lv_iload_n hx hb d_M_work_98 rfl (lv_at hl 2 rfl) ?_
          refine lv_iconst (v := 1) hx hb d_M_work_99 (by decide) ?_
          refine lv_iadd hx hb d_M_work_100 ?_
          refine lv_aload_n hx hb d_M_work_101 rfl (lv_at hl 0 rfl) ?_
          refine ygf_31_15 hx hb hown hE hW (lk_M_39 hE) d_M_work_102 ?_
          refine lv_iload_n hx hb d_M_work_105 rfl (lv_at hl 3 rfl) ?_
          refine ya_40 hx hb hE hW hP.1 d_M_work_106 ?_
          have hP := hP.2
          refine lv_iload hx hb d_M_work_107 (lv_at hl 5 rfl) ?_
          refine lv_i2l hx hb d_M_work_109 rfl ?_
          refine lv_aload_n hx hb d_M_work_110 rfl (lv_at hl 0 rfl) ?_
          refine lv_iload_n hx hb d_M_work_111 rfl (lv_at hl 2 rfl) ?_
          refine yc_l (yV (As := [.int v2]) (rest := [.long v6.toInt64, .long (z0.2 40 v3.toNatClampNeg), .int (v2 + (1 : Int32)), .ref (ha G 31)]) E (c_M_adds _ _ _ hP) (cw_M_133 hE) (yrv_31 hE hW) (by decide) hW hl.1 rfl rfl rfl d_M_work_112) hW (fun x5 z4 H locs hP hW => ?_)
          refine lv_lmul hx hb d_M_work_115 ?_
          refine lv_ladd hx hb d_M_work_116 ?_
          refine yc_i (yV (As := [.int (v2 + (1 : Int32)), .long ((z0.2 40 v3.toNatClampNeg) + (v6.toInt64 * x5))]) (rest := []) E (c_M_find _ _ _ _ hP) (cw_M_137 hE) (yrv_31 hE hW) (by decide) hW hl.1 rfl rfl rfl d_M_work_117) hW (fun x7 z6 H locs hP hW => ?_)
          refine lv_istore (lv' := [(7, .int x7), (0, .ref (ha G 31)), (1, .int v1), (2, .int v2), (3, .int v3), (4, .long v4), (6, .int v6)]) hx hb d_M_work_120 hl (by decide) rfl (fun ls hl => ?_)
          refine lv_iload hx hb d_M_work_122 (lv_at hl 0 rfl) ?_
          refine lv_if_ge (tgt := 130) hx hb d_M_work_124 rfl (fun hc => ?_) (fun hc => ?_)
          · have hP := hP.1 hc
            refine lv_lload hx hb d_M_work_130 (lv_at hl 5 rfl) ?_
            refine lv_aload_n hx hb d_M_work_132 rfl (lv_at hl 1 rfl) ?_
            refine ygf_31_16 hx hb hown hE hW (lk_M_43 hE) d_M_work_133 ?_
            refine lv_iload hx hb d_M_work_136 (lv_at hl 0 rfl) ?_
            refine ya_41 hx hb hE hW hP.1 d_M_work_138 ?_
            have hP := hP.2
            refine lv_iload_n hx hb d_M_work_139 rfl (lv_at hl 3 rfl) ?_
            refine lv_iload_n hx hb d_M_work_140 rfl (lv_at hl 2 rfl) ?_
            refine lv_icmp_ne (tgt := 162) hx hb d_M_work_141 rfl (fun hc => ?_) (fun hc => ?_)
            · have hP := hP.1 hc
              refine lv_aload_n hx hb d_M_work_162 rfl (lv_at hl 1 rfl) ?_
              refine ygf_31_10 hx hb hown hE hW (lk_M_33 hE) d_M_work_163 ?_
              refine lv_iload_n hx hb d_M_work_166 rfl (lv_at hl 3 rfl) ?_
              refine ya_38 hx hb hE hW hP.1 d_M_work_167 ?_
              have hP := hP.2
              refine lv_iload hx hb d_M_work_168 (lv_at hl 6 rfl) ?_
              refine yc_l (yS (As := [.int (z6.1 38 v2.toNatClampNeg), .int v6]) (rest := [.long (z6.2 41 x7.toNatClampNeg), .long v4]) E (c_M_choose _ _ _ _ hP) (cw_M_147 hE) (by decide) hW hl.1 rfl rfl rfl d_M_work_170) hW (fun x9 z8 H locs hP hW => ?_)
              refine lv_lmul hx hb d_M_work_173 ?_
              refine lv_ladd hx hb d_M_work_174 ?_
              refine lv_topl (fun x10 e_x10 => ?_)
              have hP := hP x10 e_x10
              refine lv_lstore (lv' := [(4, .long x10), (7, .int x7), (0, .ref (ha G 31)), (1, .int v1), (2, .int v2), (3, .int v3), (6, .int v6)]) hx hb d_M_work_175 hl (by decide) rfl (fun ls hl => ?_)
              obtain ⟨x11, e_x11⟩ : ∃ z : Int32, z = v6 + 1 := ⟨_, rfl⟩
              have hP := hP x11 e_x11
              refine lv_iinc (k := 6) (lv' := [(6, .int x11), (4, .long x10), (7, .int x7), (0, .ref (ha G 31)), (1, .int v1), (2, .int v2), (3, .int v3)]) hx hb d_M_work_177 hl rfl (ii_p1 e_x11) (by decide) rfl (fun ls hl => ?_)
              refine lv_goto (tgt := 71) hx hb d_M_work_180 rfl ?_
              exact ih _ _ _ _ _ _ _ _ _ hP (lv_sub hl [3, 4, 5, 6, 1, 0] rfl) hW
            · have hP := hP.2 hc
              refine lv_aload_n hx hb d_M_work_144 rfl (lv_at hl 1 rfl) ?_
              refine ygf_31_10 hx hb hown hE hW (lk_M_33 hE) d_M_work_145 ?_
              refine lv_iload_n hx hb d_M_work_148 rfl (lv_at hl 3 rfl) ?_
              refine ya_38 hx hb hE hW hP.1 d_M_work_149 ?_
              have hP := hP.2
              refine lv_iconst (v := 1) hx hb d_M_work_150 (by decide) ?_
              refine lv_isub hx hb d_M_work_151 ?_
              refine lv_iload hx hb d_M_work_152 (lv_at hl 6 rfl) ?_
              refine lv_iconst (v := 1) hx hb d_M_work_154 (by decide) ?_
              refine lv_isub hx hb d_M_work_155 ?_
              refine yc_l (yS (As := [.int ((z6.1 38 v2.toNatClampNeg) - (1 : Int32)), .int (v6 - (1 : Int32))]) (rest := [.long (z6.2 41 x7.toNatClampNeg), .long v4]) E (c_M_choose _ _ _ _ hP) (cw_M_147 hE) (by decide) hW hl.1 rfl rfl rfl d_M_work_156) hW (fun x13 z12 H locs hP hW => ?_)
              refine lv_goto (tgt := 173) hx hb d_M_work_159 rfl ?_
              refine lv_lmul hx hb d_M_work_173 ?_
              refine lv_ladd hx hb d_M_work_174 ?_
              refine lv_topl (fun x14 e_x14 => ?_)
              have hP := hP x14 e_x14
              refine lv_lstore (lv' := [(4, .long x14), (7, .int x7), (0, .ref (ha G 31)), (1, .int v1), (2, .int v2), (3, .int v3), (6, .int v6)]) hx hb d_M_work_175 hl (by decide) rfl (fun ls hl => ?_)
              obtain ⟨x15, e_x15⟩ : ∃ z : Int32, z = v6 + 1 := ⟨_, rfl⟩
              have hP := hP x15 e_x15
              refine lv_iinc (k := 6) (lv' := [(6, .int x15), (4, .long x14), (7, .int x7), (0, .ref (ha G 31)), (1, .int v1), (2, .int v2), (3, .int v3)]) hx hb d_M_work_177 hl rfl (ii_p1 e_x15) (by decide) rfl (fun ls hl => ?_)
              refine lv_goto (tgt := 71) hx hb d_M_work_180 rfl ?_
              exact ih _ _ _ _ _ _ _ _ _ hP (lv_sub hl [3, 4, 5, 6, 1, 0] rfl) hW
          · have hP := hP.2 hc
            exact hK127 _ _ _ _ _ _ _ _ hP (lv_sub hl [1, 2, 3, 4, 5] rfl) hW
set_option maxHeartbeats 4000000 in
set_option maxRecDepth 100000 in
theorem wJ_M_work_65 {K28 : Int32 → Int32 → Int32 → St → Prop} {K197 : Int32 → Int32 → St → Prop} {Q : St → Prop} (E : En p l s m meth c args cc_M_work 8 R_M none G)
    (hK28 : ∀ (v1 : Int32) (v2 : Int32) (v3 : Int32) (z0 : St) (ls : Array Slot) (H : Heap) (locs : List Loc), K28 v1 v2 v3 z0 → lv_has ls 8 [(0, .ref (ha G 31)), (1, .int v1), (2, .int v2), (3, .int v3)] → Wd G z0 s.heap H locs → W p l e rm_M_work s m args below meth c H locs 0 0 (MQ below (QvR Q G) args s 0 0 (fr G)) (F0 m 28 ls []))
    (hK197 : ∀ (v1 : Int32) (v2 : Int32) (z0 : St) (ls : Array Slot) (H : Heap) (locs : List Loc), K197 v1 v2 z0 → lv_has ls 8 [(0, .ref (ha G 31)), (1, .int v1), (2, .int v2)] → Wd G z0 s.heap H locs → W p l e rm_M_work s m args below meth c H locs 0 0 (MQ below (QvR Q G) args s 0 0 (fr G)) (F0 m 197 ls []))
    (v1 : Int32) (v2 : Int32) (v3 : Int32) (z0 : St) (ls : Array Slot) (H : Heap) (locs : List Loc) (hP : J_M_work_65 K28 K197 Q v1 v2 v3 z0) (hl : lv_has ls 8 [(0, .ref (ha G 31)), (1, .int v1), (2, .int v2), (3, .int v3)]) (hW : Wd G z0 s.heap H locs) : W p l e rm_M_work s m args below meth c H locs 0 0 (MQ below (QvR Q G) args s 0 0 (fr G)) (F0 m 65 ls []) := by
  obtain ⟨hx, hb, hml, hown, hr, hlk, hex, hE⟩ := id E
  refine lv_lconst (v := 0) hx hb d_M_work_65 (by decide) ?_
  refine lv_lstore (lv' := [(4, .long (0 : Int64)), (0, .ref (ha G 31)), (1, .int v1), (2, .int v2), (3, .int v3)]) hx hb d_M_work_66 hl (by decide) rfl (fun ls hl => ?_)
  refine lv_iconst (v := 0) hx hb d_M_work_68 (by decide) ?_
  refine lv_istore (lv' := [(6, .int (0 : Int32)), (4, .long (0 : Int64)), (0, .ref (ha G 31)), (1, .int v1), (2, .int v2), (3, .int v3)]) hx hb d_M_work_69 hl (by decide) rfl (fun ls hl => ?_)
  obtain ⟨n2, hP⟩ := hP
  refine wL_M_work_71 E ?_ ?_ n2 _ _ _ _ _ _ _ _ _ hP (lv_sub hl [2, 3, 4, 5, 1, 0] rfl) hW
  · intro x16 x17 x18 x19 z20 ls H locs hP hl hW
    refine lv_goto (tgt := 183) hx hb d_M_work_127 rfl ?_
    refine lv_aload_n hx hb d_M_work_183 rfl (lv_at hl 0 rfl) ?_
    refine ygf_31_16 hx hb hown hE hW (lk_M_43 hE) d_M_work_184 ?_
    refine lv_iload_n hx hb d_M_work_187 rfl (lv_at hl 3 rfl) ?_
    refine lv_lload hx hb d_M_work_188 (lv_at hl 4 rfl) ?_
    refine ys_41 hx hb hE hW hP.1 d_M_work_190 (fun z26 H locs e_z26 hW => ?_)
    have hP := hP.2
    have hP := hP z26 e_z26
    obtain ⟨x27, e_x27⟩ : ∃ z : Int32, z = x18 + 1 := ⟨_, rfl⟩
    have hP := hP x27 e_x27
    refine lv_iinc (k := 3) (lv' := [(3, .int x27), (0, .ref (ha G 31)), (1, .int x16), (2, .int x17), (4, .long x19)]) hx hb d_M_work_191 hl rfl (ii_p1 e_x27) (by decide) rfl (fun ls hl => ?_)
    refine lv_goto (tgt := 28) hx hb d_M_work_194 rfl ?_
    exact hK28 _ _ _ _ _ _ _ hP (lv_sub hl [1, 2, 3, 0] rfl) hW
  · intro x21 x22 x23 x24 z25 ls H locs hP hl hW
    refine lv_aload_n hx hb d_M_work_183 rfl (lv_at hl 0 rfl) ?_
    refine ygf_31_16 hx hb hown hE hW (lk_M_43 hE) d_M_work_184 ?_
    refine lv_iload_n hx hb d_M_work_187 rfl (lv_at hl 3 rfl) ?_
    refine lv_lload hx hb d_M_work_188 (lv_at hl 4 rfl) ?_
    refine ys_41 hx hb hE hW hP.1 d_M_work_190 (fun z28 H locs e_z28 hW => ?_)
    have hP := hP.2
    have hP := hP z28 e_z28
    obtain ⟨x29, e_x29⟩ : ∃ z : Int32, z = x23 + 1 := ⟨_, rfl⟩
    have hP := hP x29 e_x29
    refine lv_iinc (k := 3) (lv' := [(3, .int x29), (0, .ref (ha G 31)), (1, .int x21), (2, .int x22), (4, .long x24)]) hx hb d_M_work_191 hl rfl (ii_p1 e_x29) (by decide) rfl (fun ls hl => ?_)
    refine lv_goto (tgt := 28) hx hb d_M_work_194 rfl ?_
    exact hK28 _ _ _ _ _ _ _ hP (lv_sub hl [1, 2, 3, 0] rfl) hW
set_option maxHeartbeats 4000000 in
set_option maxRecDepth 100000 in
theorem wL_M_work_28 {K197 : Int32 → Int32 → St → Prop} {Q : St → Prop} (E : En p l s m meth c args cc_M_work 8 R_M none G)
    (hK197 : ∀ (v1 : Int32) (v2 : Int32) (z0 : St) (ls : Array Slot) (H : Heap) (locs : List Loc), K197 v1 v2 z0 → lv_has ls 8 [(0, .ref (ha G 31)), (1, .int v1), (2, .int v2)] → Wd G z0 s.heap H locs → W p l e rm_M_work s m args below meth c H locs 0 0 (MQ below (QvR Q G) args s 0 0 (fr G)) (F0 m 197 ls [])) :
    ∀ (n : Nat) (v1 : Int32) (v2 : Int32) (v3 : Int32) (z0 : St) (ls : Array Slot) (H : Heap) (locs : List Loc), L_M_work_28 K197 Q n v1 v2 v3 z0 → lv_has ls 8 [(0, .ref (ha G 31)), (1, .int v1), (2, .int v2), (3, .int v3)] → Wd G z0 s.heap H locs → W p l e rm_M_work s m args below meth c H locs 0 0 (MQ below (QvR Q G) args s 0 0 (fr G)) (F0 m 28 ls []) := by
  obtain ⟨hx, hb, hml, hown, hr, hlk, hex, hE⟩ := id E
  intro n
  induction n with
  | zero => exact fun _ _ _ _ _ _ _ hP _ _ => hP.elim
  | succ n ih =>
    intro v1 v2 v3 z0 ls H locs hP hl hW
    refine lv_iload_n hx hb d_M_work_28 rfl (lv_at hl 3 rfl) ?_
    refine lv_aload_n hx hb d_M_work_29 rfl (lv_at hl 0 rfl) ?_
    refine ygf_31_14 hx hb hown hE hW (lk_M_36 hE) d_M_work_30 ?_
    refine lv_iload_n hx hb d_M_work_33 rfl (lv_at hl 2 rfl) ?_
    refine lv_iconst (v := 1) hx hb d_M_work_34 (by decide) ?_
    refine lv_iadd hx hb d_M_work_35 ?_
    refine ya_39 hx hb hE hW hP.1 d_M_work_36 ?_
    have hP := hP.2
    refine lv_icmp_ge (tgt := 197) hx hb d_M_work_37 rfl (fun hc => ?_) (fun hc => ?_)
    · have hP := hP.1 hc
      exact hK197 _ _ _ _ _ _ hP (lv_sub hl [0, 1, 2] rfl) hW
    · have hP := hP.2 hc
      refine lv_iload_n hx hb d_M_work_40 rfl (lv_at hl 2 rfl) ?_
      refine lv_aload_n hx hb d_M_work_41 rfl (lv_at hl 0 rfl) ?_
      refine ygf_31_8 hx hb hown hE hW (lk_M_73 hE) d_M_work_42 ?_
      refine lv_icmp_ne (tgt := 65) hx hb d_M_work_45 rfl (fun hc => ?_) (fun hc => ?_)
      · have hP := hP.1 hc
        exact wJ_M_work_65 E ih hK197 _ _ _ _ _ _ _ hP hl hW
      · have hP := hP.2 hc
        refine lv_aload_n hx hb d_M_work_48 rfl (lv_at hl 0 rfl) ?_
        refine lv_aload_n hx hb d_M_work_49 rfl (lv_at hl 0 rfl) ?_
        refine ygf_31_15 hx hb hown hE hW (lk_M_39 hE) d_M_work_50 ?_
        refine lv_iload_n hx hb d_M_work_53 rfl (lv_at hl 3 rfl) ?_
        refine ya_40 hx hb hE hW hP.1 d_M_work_54 ?_
        have hP := hP.2
        refine yc_i (yV (As := [.long (z0.2 40 v3.toNatClampNeg)]) (rest := []) E (c_M_isPanel _ _ _ hP) (cw_M_144 hE) (yrv_31 hE hW) (by decide) hW hl.1 rfl rfl rfl d_M_work_55) hW (fun x31 z30 H locs hP hW => ?_)
        refine lv_if_eq (tgt := 65) hx hb d_M_work_58 rfl (fun hc => ?_) (fun hc => ?_)
        · have hP := hP.1 hc
          exact wJ_M_work_65 E ih hK197 _ _ _ _ _ _ _ hP hl hW
        · have hP := hP.2 hc
          refine lv_lconst (v := 1) hx hb d_M_work_61 (by decide) ?_
          refine lv_goto (tgt := 66) hx hb d_M_work_62 rfl ?_
          refine lv_lstore (lv' := [(4, .long (1 : Int64)), (0, .ref (ha G 31)), (1, .int v1), (2, .int v2), (3, .int v3)]) hx hb d_M_work_66 hl (by decide) rfl (fun ls hl => ?_)
          refine lv_iconst (v := 0) hx hb d_M_work_68 (by decide) ?_
          refine lv_istore (lv' := [(6, .int (0 : Int32)), (4, .long (1 : Int64)), (0, .ref (ha G 31)), (1, .int v1), (2, .int v2), (3, .int v3)]) hx hb d_M_work_69 hl (by decide) rfl (fun ls hl => ?_)
          obtain ⟨n2, hP⟩ := hP
          refine wL_M_work_71 E ?_ ?_ n2 _ _ _ _ _ _ _ _ _ hP (lv_sub hl [2, 3, 4, 5, 1, 0] rfl) hW
          · intro x32 x33 x34 x35 z36 ls H locs hP hl hW
            refine lv_goto (tgt := 183) hx hb d_M_work_127 rfl ?_
            refine lv_aload_n hx hb d_M_work_183 rfl (lv_at hl 0 rfl) ?_
            refine ygf_31_16 hx hb hown hE hW (lk_M_43 hE) d_M_work_184 ?_
            refine lv_iload_n hx hb d_M_work_187 rfl (lv_at hl 3 rfl) ?_
            refine lv_lload hx hb d_M_work_188 (lv_at hl 4 rfl) ?_
            refine ys_41 hx hb hE hW hP.1 d_M_work_190 (fun z42 H locs e_z42 hW => ?_)
            have hP := hP.2
            have hP := hP z42 e_z42
            obtain ⟨x43, e_x43⟩ : ∃ z : Int32, z = x34 + 1 := ⟨_, rfl⟩
            have hP := hP x43 e_x43
            refine lv_iinc (k := 3) (lv' := [(3, .int x43), (0, .ref (ha G 31)), (1, .int x32), (2, .int x33), (4, .long x35)]) hx hb d_M_work_191 hl rfl (ii_p1 e_x43) (by decide) rfl (fun ls hl => ?_)
            refine lv_goto (tgt := 28) hx hb d_M_work_194 rfl ?_
            exact ih _ _ _ _ _ _ _ hP (lv_sub hl [1, 2, 3, 0] rfl) hW
          · intro x37 x38 x39 x40 z41 ls H locs hP hl hW
            refine lv_aload_n hx hb d_M_work_183 rfl (lv_at hl 0 rfl) ?_
            refine ygf_31_16 hx hb hown hE hW (lk_M_43 hE) d_M_work_184 ?_
            refine lv_iload_n hx hb d_M_work_187 rfl (lv_at hl 3 rfl) ?_
            refine lv_lload hx hb d_M_work_188 (lv_at hl 4 rfl) ?_
            refine ys_41 hx hb hE hW hP.1 d_M_work_190 (fun z44 H locs e_z44 hW => ?_)
            have hP := hP.2
            have hP := hP z44 e_z44
            obtain ⟨x45, e_x45⟩ : ∃ z : Int32, z = x39 + 1 := ⟨_, rfl⟩
            have hP := hP x45 e_x45
            refine lv_iinc (k := 3) (lv' := [(3, .int x45), (0, .ref (ha G 31)), (1, .int x37), (2, .int x38), (4, .long x40)]) hx hb d_M_work_191 hl rfl (ii_p1 e_x45) (by decide) rfl (fun ls hl => ?_)
            refine lv_goto (tgt := 28) hx hb d_M_work_194 rfl ?_
            exact ih _ _ _ _ _ _ _ hP (lv_sub hl [1, 2, 3, 0] rfl) hW
set_option maxHeartbeats 4000000 in
set_option maxRecDepth 100000 in
theorem wL_M_work_17 {Q : St → Prop} (E : En p l s m meth c args cc_M_work 8 R_M none G) :
    ∀ (n : Nat) (v1 : Int32) (v2 : Int32) (z0 : St) (ls : Array Slot) (H : Heap) (locs : List Loc), L_M_work_17 Q n v1 v2 z0 → lv_has ls 8 [(0, .ref (ha G 31)), (1, .int v1), (2, .int v2)] → Wd G z0 s.heap H locs → W p l e rm_M_work s m args below meth c H locs 0 0 (MQ below (QvR Q G) args s 0 0 (fr G)) (F0 m 17 ls []) := by
  obtain ⟨hx, hb, hml, hown, hr, hlk, hex, hE⟩ := id E
  intro n
  induction n with
  | zero => exact fun _ _ _ _ _ _ hP _ _ => hP.elim
  | succ n ih =>
    intro v1 v2 z0 ls H locs hP hl hW
    refine lv_iload_n hx hb d_M_work_17 rfl (lv_at hl 2 rfl) ?_
    refine lv_if_lt (tgt := 203) hx hb d_M_work_18 rfl (fun hc => ?_) (fun hc => ?_)
    · have hP := hP.1 hc
      exact yr_v hx hb hr hlk hW hP d_M_work_203
    · have hP := hP.2 hc
      refine lv_aload_n hx hb d_M_work_21 rfl (lv_at hl 0 rfl) ?_
      refine ygf_31_14 hx hb hown hE hW (lk_M_36 hE) d_M_work_22 ?_
      refine lv_iload_n hx hb d_M_work_25 rfl (lv_at hl 2 rfl) ?_
      refine ya_39 hx hb hE hW hP.1 d_M_work_26 ?_
      have hP := hP.2
      refine lv_topi (fun x3 e_x3 => ?_)
      have hP := hP x3 e_x3
      refine lv_istore_n (lv' := [(3, .int x3), (0, .ref (ha G 31)), (1, .int v1), (2, .int v2)]) hx hb d_M_work_27 rfl hl (by decide) rfl (fun ls hl => ?_)
      obtain ⟨n2, hP⟩ := hP
      refine wL_M_work_28 E ?_ n2 _ _ _ _ _ _ _ hP (lv_sub hl [1, 2, 3, 0] rfl) hW
      · intro x46 x47 z48 ls H locs hP hl hW
        obtain ⟨x49, e_x49⟩ : ∃ z : Int32, z = x47 - 1 := ⟨_, rfl⟩
        have hP := hP x49 e_x49
        refine lv_iinc (k := 2) (lv' := [(2, .int x49), (0, .ref (ha G 31)), (1, .int x46)]) hx hb d_M_work_197 hl rfl (ii_m1 e_x49) (by decide) rfl (fun ls hl => ?_)
        refine lv_goto (tgt := 17) hx hb d_M_work_200 rfl ?_
        exact ih _ _ _ _ _ _ hP (lv_sub hl [1, 2, 0] rfl) hW
set_option maxHeartbeats 4000000 in
set_option maxRecDepth 100000 in
theorem c_M_work {l : Launch} {G : GG} (a1 : Int32) (z0 : St) (Q : St → Prop) (hP : P_M_work a1 z0 Q) : Ctv l y_M_work cc_M_work 8 none rm_M_work G [.ref (ha G 31), .int a1] z0 Q := by
  refine Ctv.op (own := R_M) (by decide) rfl (Nat.le_of_ble_eq_true rfl) (fun p e s m args below meth c ls E hl hW => ?_)
  obtain ⟨hx, hb, hml, hown, hr, hlk, hex, hE⟩ := id E
  have hl : lv_has ls 8 [(0, .ref (ha G 31)), (1, .int a1)] := hl
  refine lv_aload_n hx hb d_M_work_0 rfl (lv_at hl 0 rfl) ?_
  refine yc_v (yV (As := []) (rest := []) E (c_M_list _ _ hP) (cw_M_141 hE) (yrv_31 hE hW) (by decide) hW hl.1 rfl rfl rfl d_M_work_1) hW (fun z1 H locs hP hW => ?_)
  refine lv_aload_n hx hb d_M_work_4 rfl (lv_at hl 0 rfl) ?_
  refine ygf_31_12 hx hb hown hE hW (lk_M_123 hE) d_M_work_5 ?_
  refine lv_if_eq (tgt := 12) hx hb d_M_work_8 rfl (fun hc => ?_) (fun hc => ?_)
  · have hP := hP.1 hc
    refine lv_aload_n hx hb d_M_work_12 rfl (lv_at hl 0 rfl) ?_
    refine ygf_31_8 hx hb hown hE hW (lk_M_73 hE) d_M_work_13 ?_
    refine lv_topi (fun x2 e_x2 => ?_)
    have hP := hP x2 e_x2
    refine lv_istore_n (lv' := [(2, .int x2), (0, .ref (ha G 31)), (1, .int a1)]) hx hb d_M_work_16 rfl hl (by decide) rfl (fun ls hl => ?_)
    obtain ⟨n2, hP⟩ := hP
    refine wL_M_work_17 E n2 _ _ _ _ _ _ hP (lv_sub hl [1, 2, 0] rfl) hW
  · have hP := hP.2 hc
    exact yr_v hx hb hr hlk hW hP d_M_work_11
theorem d_M_counts_0 : decode cc_M_counts 0 = .ok (.aload_n 0, 1) := by decide +kernel
theorem d_M_counts_1 : decode cc_M_counts 1 = .ok (.getfield 83, 3) := by decide +kernel
theorem d_M_counts_4 : decode cc_M_counts 4 = .ok (.ifCond .ne 8, 3) := by decide +kernel
theorem d_M_counts_7 : decode cc_M_counts 7 = .ok (.aload_n 0, 1) := by decide +kernel
theorem d_M_counts_8 : decode cc_M_counts 8 = .ok (.iconst (-1), 1) := by decide +kernel
theorem d_M_counts_9 : decode cc_M_counts 9 = .ok (.invokevirtual 151, 3) := by decide +kernel
theorem d_M_counts_12 : decode cc_M_counts 12 = .ok (.aload_n 0, 1) := by decide +kernel
theorem d_M_counts_13 : decode cc_M_counts 13 = .ok (.iconst 1, 1) := by decide +kernel
theorem d_M_counts_14 : decode cc_M_counts 14 = .ok (.putfield 83, 3) := by decide +kernel
theorem d_M_counts_17 : decode cc_M_counts 17 = .ok (.aload_n 0, 1) := by decide +kernel
theorem d_M_counts_18 : decode cc_M_counts 18 = .ok (.getfield 123, 3) := by decide +kernel
theorem d_M_counts_21 : decode cc_M_counts 21 = .ok (.ifCond .ne 7, 3) := by decide +kernel
theorem d_M_counts_24 : decode cc_M_counts 24 = .ok (.iconst 1, 1) := by decide +kernel
theorem d_M_counts_25 : decode cc_M_counts 25 = .ok (.goto 4, 3) := by decide +kernel
theorem d_M_counts_28 : decode cc_M_counts 28 = .ok (.iconst 0, 1) := by decide +kernel
theorem d_M_counts_29 : decode cc_M_counts 29 = .ok (.ireturn, 1) := by decide +kernel
def J_M_counts_12 (Q : Int32 → St → Prop) (z0 : St) : Prop := ∀ z1 : St, z1 = wI z0 31 11 (1 : Int32) → ((¬ (z1.1 31 12) = 0) → Q (0 : Int32) z1) ∧ (((z1.1 31 12) = 0) → Q (1 : Int32) z1)
def P_M_counts (z0 : St) (Q : Int32 → St → Prop) : Prop := ((¬ (z0.1 31 11) = 0) → J_M_counts_12 Q z0) ∧ (((z0.1 31 11) = 0) → P_M_work (-1 : Int32) z0 (fun (z2 : St) => J_M_counts_12 Q z2))
set_option maxHeartbeats 4000000 in
set_option maxRecDepth 100000 in
theorem wJ_M_counts_12 {Q : Int32 → St → Prop} (E : En p l s m meth c args cc_M_counts 1 R_M (some .boolean) G)
    (z0 : St) (ls : Array Slot) (H : Heap) (locs : List Loc) (hP : J_M_counts_12 Q z0) (hl : lv_has ls 1 [(0, .ref (ha G 31))]) (hW : Wd G z0 s.heap H locs) : W p l e rm_M_counts s m args below meth c H locs 0 0 (MQ below (QiR Q G) args s 0 0 (fr G)) (F0 m 12 ls []) := by
  obtain ⟨hx, hb, hml, hown, hr, hlk, hex, hE⟩ := id E
  refine lv_aload_n hx hb d_M_counts_12 rfl (lv_at hl 0 rfl) ?_
  refine lv_iconst (v := 1) hx hb d_M_counts_13 (by decide) ?_
  refine ypf_31_11 hx hb hown hE hW zb_1 (lk_M_83 hE) d_M_counts_14 (fun z1 H locs e_z1 hW => ?_)
  have hP := hP z1 e_z1
  refine lv_aload_n hx hb d_M_counts_17 rfl (lv_at hl 0 rfl) ?_
  refine ygf_31_12 hx hb hown hE hW (lk_M_123 hE) d_M_counts_18 ?_
  refine lv_if_ne (tgt := 28) hx hb d_M_counts_21 rfl (fun hc => ?_) (fun hc => ?_)
  · have hP := hP.1 hc
    refine lv_iconst (v := 0) hx hb d_M_counts_28 (by decide) ?_
    exact yr_z hx hb hr hlk hW zb_0 hP d_M_counts_29
  · have hP := hP.2 hc
    refine lv_iconst (v := 1) hx hb d_M_counts_24 (by decide) ?_
    refine lv_goto (tgt := 29) hx hb d_M_counts_25 rfl ?_
    exact yr_z hx hb hr hlk hW zb_1 hP d_M_counts_29
set_option maxHeartbeats 4000000 in
set_option maxRecDepth 100000 in
theorem c_M_counts {l : Launch} {G : GG} (z0 : St) (Q : Int32 → St → Prop) (hP : P_M_counts z0 Q) : Cti l y_M_counts cc_M_counts 1 (some .boolean) rm_M_counts G [.ref (ha G 31)] z0 Q := by
  refine Cti.op (own := R_M) (by decide) rfl (Nat.le_of_ble_eq_true rfl) (fun p e s m args below meth c ls E hl hW => ?_)
  obtain ⟨hx, hb, hml, hown, hr, hlk, hex, hE⟩ := id E
  have hl : lv_has ls 1 [(0, .ref (ha G 31))] := hl
  refine lv_aload_n hx hb d_M_counts_0 rfl (lv_at hl 0 rfl) ?_
  refine ygf_31_11 hx hb hown hE hW (lk_M_83 hE) d_M_counts_1 ?_
  refine lv_if_ne (tgt := 12) hx hb d_M_counts_4 rfl (fun hc => ?_) (fun hc => ?_)
  · have hP := hP.1 hc
    exact wJ_M_counts_12 E _ _ _ _ hP hl hW
  · have hP := hP.2 hc
    refine lv_aload_n hx hb d_M_counts_7 rfl (lv_at hl 0 rfl) ?_
    refine lv_iconst (v := -1) hx hb d_M_counts_8 (by decide) ?_
    refine yc_v (yV (As := [.int (-1 : Int32)]) (rest := []) E (c_M_work _ _ _ hP) (cw_M_151 hE) (yrv_31 hE hW) (by decide) hW hl.1 rfl rfl rfl d_M_counts_9) hW (fun z2 H locs hP hW => ?_)
    exact wJ_M_counts_12 E _ _ _ _ hP hl hW
theorem d_M_count_0 : decode cc_M_count 0 = .ok (.aload_n 0, 1) := by decide +kernel
theorem d_M_count_1 : decode cc_M_count 1 = .ok (.aload_n 0, 1) := by decide +kernel
theorem d_M_count_2 : decode cc_M_count 2 = .ok (.invokevirtual 155, 3) := by decide +kernel
theorem d_M_count_5 : decode cc_M_count 5 = .ok (.ifCond .eq 7, 3) := by decide +kernel
theorem d_M_count_8 : decode cc_M_count 8 = .ok (.iconst 0, 1) := by decide +kernel
theorem d_M_count_9 : decode cc_M_count 9 = .ok (.goto 4, 3) := by decide +kernel
theorem d_M_count_12 : decode cc_M_count 12 = .ok (.iconst 1, 1) := by decide +kernel
theorem d_M_count_13 : decode cc_M_count 13 = .ok (.putfield 70, 3) := by decide +kernel
theorem d_M_count_16 : decode cc_M_count 16 = .ok (.aload_n 0, 1) := by decide +kernel
theorem d_M_count_17 : decode cc_M_count 17 = .ok (.getfield 70, 3) := by decide +kernel
theorem d_M_count_20 : decode cc_M_count 20 = .ok (.ifCond .le 7, 3) := by decide +kernel
theorem d_M_count_23 : decode cc_M_count 23 = .ok (.lconst 0, 1) := by decide +kernel
theorem d_M_count_24 : decode cc_M_count 24 = .ok (.goto 9, 3) := by decide +kernel
theorem d_M_count_27 : decode cc_M_count 27 = .ok (.aload_n 0, 1) := by decide +kernel
theorem d_M_count_28 : decode cc_M_count 28 = .ok (.getfield 43, 3) := by decide +kernel
theorem d_M_count_31 : decode cc_M_count 31 = .ok (.iconst 0, 1) := by decide +kernel
theorem d_M_count_32 : decode cc_M_count 32 = .ok (.laload, 1) := by decide +kernel
theorem d_M_count_33 : decode cc_M_count 33 = .ok (.lreturn, 1) := by decide +kernel
def J_M_count_13 (Q : Int64 → St → Prop) (t0 : Int32) (z0 : St) : Prop := ∀ z3 : St, z3 = wI z0 31 0 t0 → (((z3.1 31 0) ≤ 0) → vp_in (0 : Int32) 1010 ∧ Q (z3.2 41 (0 : Int32).toNatClampNeg) z3) ∧ ((¬ (z3.1 31 0) ≤ 0) → Q (0 : Int64) z3)
def P_M_count (z0 : St) (Q : Int64 → St → Prop) : Prop := P_M_counts z0 (fun (x2 : Int32) (z1 : St) => ((x2 = 0) → J_M_count_13 Q (1 : Int32) z1) ∧ ((¬ x2 = 0) → J_M_count_13 Q (0 : Int32) z1))
set_option maxHeartbeats 4000000 in
set_option maxRecDepth 100000 in
theorem wJ_M_count_13 {Q : Int64 → St → Prop} (E : En p l s m meth c args cc_M_count 1 R_M (some .long) G)
    (t0 : Int32) (z0 : St) (ls : Array Slot) (H : Heap) (locs : List Loc) (hP : J_M_count_13 Q t0 z0) (hl : lv_has ls 1 [(0, .ref (ha G 31))]) (hW : Wd G z0 s.heap H locs) : W p l e rm_M_count s m args below meth c H locs 0 0 (MQ below (QlR Q G) args s 0 0 (fr G)) (F0 m 13 ls [.int t0, .ref (ha G 31)]) := by
  obtain ⟨hx, hb, hml, hown, hr, hlk, hex, hE⟩ := id E
  refine ypf_31_0 hx hb hown hE hW (lk_M_70 hE) d_M_count_13 (fun z3 H locs e_z3 hW => ?_)
  have hP := hP z3 e_z3
  refine lv_aload_n hx hb d_M_count_16 rfl (lv_at hl 0 rfl) ?_
  refine ygf_31_0 hx hb hown hE hW (lk_M_70 hE) d_M_count_17 ?_
  refine lv_if_le (tgt := 27) hx hb d_M_count_20 rfl (fun hc => ?_) (fun hc => ?_)
  · have hP := hP.1 hc
    refine lv_aload_n hx hb d_M_count_27 rfl (lv_at hl 0 rfl) ?_
    refine ygf_31_16 hx hb hown hE hW (lk_M_43 hE) d_M_count_28 ?_
    refine lv_iconst (v := 0) hx hb d_M_count_31 (by decide) ?_
    refine ya_41 hx hb hE hW hP.1 d_M_count_32 ?_
    have hP := hP.2
    exact yr_l hx hb hr hlk hW hP d_M_count_33
  · have hP := hP.2 hc
    refine lv_lconst (v := 0) hx hb d_M_count_23 (by decide) ?_
    refine lv_goto (tgt := 33) hx hb d_M_count_24 rfl ?_
    exact yr_l hx hb hr hlk hW hP d_M_count_33
set_option maxHeartbeats 4000000 in
set_option maxRecDepth 100000 in
theorem c_M_count {l : Launch} {G : GG} (z0 : St) (Q : Int64 → St → Prop) (hP : P_M_count z0 Q) : Ctl l y_M_count cc_M_count 1 (some .long) rm_M_count G [.ref (ha G 31)] z0 Q := by
  refine Ctl.op (own := R_M) (by decide) rfl (Nat.le_of_ble_eq_true rfl) (fun p e s m args below meth c ls E hl hW => ?_)
  obtain ⟨hx, hb, hml, hown, hr, hlk, hex, hE⟩ := id E
  have hl : lv_has ls 1 [(0, .ref (ha G 31))] := hl
  refine lv_aload_n hx hb d_M_count_0 rfl (lv_at hl 0 rfl) ?_
  refine lv_aload_n hx hb d_M_count_1 rfl (lv_at hl 0 rfl) ?_
  refine yc_i (yV (As := []) (rest := [.ref (ha G 31)]) E (c_M_counts _ _ hP) (cw_M_155 hE) (yrv_31 hE hW) (by decide) hW hl.1 rfl rfl rfl d_M_count_2) hW (fun x2 z1 H locs hP hW => ?_)
  refine lv_if_eq (tgt := 12) hx hb d_M_count_5 rfl (fun hc => ?_) (fun hc => ?_)
  · have hP := hP.1 hc
    refine lv_iconst (v := 1) hx hb d_M_count_12 (by decide) ?_
    exact wJ_M_count_13 E _ _ _ _ _ hP hl hW
  · have hP := hP.2 hc
    refine lv_iconst (v := 0) hx hb d_M_count_8 (by decide) ?_
    refine lv_goto (tgt := 13) hx hb d_M_count_9 rfl ?_
    exact wJ_M_count_13 E _ _ _ _ _ hP hl hW
theorem d_M_states_0 : decode cc_M_states 0 = .ok (.aload_n 0, 1) := by decide +kernel
theorem d_M_states_1 : decode cc_M_states 1 = .ok (.iconst 0, 1) := by decide +kernel
theorem d_M_states_2 : decode cc_M_states 2 = .ok (.putfield 70, 3) := by decide +kernel
theorem d_M_states_5 : decode cc_M_states 5 = .ok (.aload_n 0, 1) := by decide +kernel
theorem d_M_states_6 : decode cc_M_states 6 = .ok (.invokevirtual 155, 3) := by decide +kernel
theorem d_M_states_9 : decode cc_M_states 9 = .ok (.ifCond .eq 12, 3) := by decide +kernel
theorem d_M_states_12 : decode cc_M_states 12 = .ok (.aload_n 0, 1) := by decide +kernel
theorem d_M_states_13 : decode cc_M_states 13 = .ok (.getfield 126, 3) := by decide +kernel
theorem d_M_states_16 : decode cc_M_states 16 = .ok (.iconst 1, 1) := by decide +kernel
theorem d_M_states_17 : decode cc_M_states 17 = .ok (.isub, 1) := by decide +kernel
theorem d_M_states_18 : decode cc_M_states 18 = .ok (.goto 4, 3) := by decide +kernel
theorem d_M_states_21 : decode cc_M_states 21 = .ok (.iconst (-1), 1) := by decide +kernel
theorem d_M_states_22 : decode cc_M_states 22 = .ok (.ireturn, 1) := by decide +kernel
def P_M_states (z0 : St) (Q : Int32 → St → Prop) : Prop := ∀ z1 : St, z1 = wI z0 31 0 (0 : Int32) → P_M_counts z1 (fun (x3 : Int32) (z2 : St) => ((x3 = 0) → Q (-1 : Int32) z2) ∧ ((¬ x3 = 0) → Q ((z2.1 31 13) - (1 : Int32)) z2))
set_option maxHeartbeats 4000000 in
set_option maxRecDepth 100000 in
theorem c_M_states {l : Launch} {G : GG} (z0 : St) (Q : Int32 → St → Prop) (hP : P_M_states z0 Q) : Cti l y_M_states cc_M_states 1 (some .int) rm_M_states G [.ref (ha G 31)] z0 Q := by
  refine Cti.op (own := R_M) (by decide) rfl (Nat.le_of_ble_eq_true rfl) (fun p e s m args below meth c ls E hl hW => ?_)
  obtain ⟨hx, hb, hml, hown, hr, hlk, hex, hE⟩ := id E
  have hl : lv_has ls 1 [(0, .ref (ha G 31))] := hl
  refine lv_aload_n hx hb d_M_states_0 rfl (lv_at hl 0 rfl) ?_
  refine lv_iconst (v := 0) hx hb d_M_states_1 (by decide) ?_
  refine ypf_31_0 hx hb hown hE hW (lk_M_70 hE) d_M_states_2 (fun z1 H locs e_z1 hW => ?_)
  have hP := hP z1 e_z1
  refine lv_aload_n hx hb d_M_states_5 rfl (lv_at hl 0 rfl) ?_
  refine yc_i (yV (As := []) (rest := []) E (c_M_counts _ _ hP) (cw_M_155 hE) (yrv_31 hE hW) (by decide) hW hl.1 rfl rfl rfl d_M_states_6) hW (fun x3 z2 H locs hP hW => ?_)
  refine lv_if_eq (tgt := 21) hx hb d_M_states_9 rfl (fun hc => ?_) (fun hc => ?_)
  · have hP := hP.1 hc
    refine lv_iconst (v := -1) hx hb d_M_states_21 (by decide) ?_
    exact yr_i hx hb hr hlk hW hP d_M_states_22
  · have hP := hP.2 hc
    refine lv_aload_n hx hb d_M_states_12 rfl (lv_at hl 0 rfl) ?_
    refine ygf_31_13 hx hb hown hE hW (lk_M_126 hE) d_M_states_13 ?_
    refine lv_iconst (v := 1) hx hb d_M_states_16 (by decide) ?_
    refine lv_isub hx hb d_M_states_17 ?_
    refine lv_goto (tgt := 22) hx hb d_M_states_18 rfl ?_
    exact yr_i hx hb hr hlk hW hP d_M_states_22
theorem d_M_isPerson_0 : decode cc_M_isPerson 0 = .ok (.iload_n 1, 1) := by decide +kernel
theorem d_M_isPerson_1 : decode cc_M_isPerson 1 = .ok (.ifCond .lt 15, 3) := by decide +kernel
theorem d_M_isPerson_4 : decode cc_M_isPerson 4 = .ok (.iload_n 1, 1) := by decide +kernel
theorem d_M_isPerson_5 : decode cc_M_isPerson 5 = .ok (.aload_n 0, 1) := by decide +kernel
theorem d_M_isPerson_6 : decode cc_M_isPerson 6 = .ok (.getfield 76, 3) := by decide +kernel
theorem d_M_isPerson_9 : decode cc_M_isPerson 9 = .ok (.if_icmp .ge 7, 3) := by decide +kernel
theorem d_M_isPerson_12 : decode cc_M_isPerson 12 = .ok (.iconst 1, 1) := by decide +kernel
theorem d_M_isPerson_13 : decode cc_M_isPerson 13 = .ok (.goto 4, 3) := by decide +kernel
theorem d_M_isPerson_16 : decode cc_M_isPerson 16 = .ok (.iconst 0, 1) := by decide +kernel
theorem d_M_isPerson_17 : decode cc_M_isPerson 17 = .ok (.ireturn, 1) := by decide +kernel
def P_M_isPerson (a1 : Int32) (z0 : St) (Q : Int32 → St → Prop) : Prop := ((a1 < 0) → Q (0 : Int32) z0) ∧ ((¬ a1 < 0) → (((z0.1 31 1) ≤ a1) → Q (0 : Int32) z0) ∧ ((¬ (z0.1 31 1) ≤ a1) → Q (1 : Int32) z0))
set_option maxHeartbeats 4000000 in
set_option maxRecDepth 100000 in
theorem c_M_isPerson {l : Launch} {G : GG} (a1 : Int32) (z0 : St) (Q : Int32 → St → Prop) (hP : P_M_isPerson a1 z0 Q) : Cti l y_M_isPerson cc_M_isPerson 2 (some .boolean) rm_M_isPerson G [.ref (ha G 31), .int a1] z0 Q := by
  refine Cti.op (own := R_M) (by decide) rfl (Nat.le_of_ble_eq_true rfl) (fun p e s m args below meth c ls E hl hW => ?_)
  obtain ⟨hx, hb, hml, hown, hr, hlk, hex, hE⟩ := id E
  have hl : lv_has ls 2 [(0, .ref (ha G 31)), (1, .int a1)] := hl
  refine lv_iload_n hx hb d_M_isPerson_0 rfl (lv_at hl 1 rfl) ?_
  refine lv_if_lt (tgt := 16) hx hb d_M_isPerson_1 rfl (fun hc => ?_) (fun hc => ?_)
  · have hP := hP.1 hc
    refine lv_iconst (v := 0) hx hb d_M_isPerson_16 (by decide) ?_
    exact yr_z hx hb hr hlk hW zb_0 hP d_M_isPerson_17
  · have hP := hP.2 hc
    refine lv_iload_n hx hb d_M_isPerson_4 rfl (lv_at hl 1 rfl) ?_
    refine lv_aload_n hx hb d_M_isPerson_5 rfl (lv_at hl 0 rfl) ?_
    refine ygf_31_1 hx hb hown hE hW (lk_M_76 hE) d_M_isPerson_6 ?_
    refine lv_icmp_ge (tgt := 16) hx hb d_M_isPerson_9 rfl (fun hc => ?_) (fun hc => ?_)
    · have hP := hP.1 hc
      refine lv_iconst (v := 0) hx hb d_M_isPerson_16 (by decide) ?_
      exact yr_z hx hb hr hlk hW zb_0 hP d_M_isPerson_17
    · have hP := hP.2 hc
      refine lv_iconst (v := 1) hx hb d_M_isPerson_12 (by decide) ?_
      refine lv_goto (tgt := 17) hx hb d_M_isPerson_13 rfl ?_
      exact yr_z hx hb hr hlk hW zb_1 hP d_M_isPerson_17
theorem d_M_kindOf_0 : decode cc_M_kindOf 0 = .ok (.iconst 0, 1) := by decide +kernel
theorem d_M_kindOf_1 : decode cc_M_kindOf 1 = .ok (.istore_n 2, 1) := by decide +kernel
theorem d_M_kindOf_2 : decode cc_M_kindOf 2 = .ok (.aload_n 0, 1) := by decide +kernel
theorem d_M_kindOf_3 : decode cc_M_kindOf 3 = .ok (.getfield 30, 3) := by decide +kernel
theorem d_M_kindOf_6 : decode cc_M_kindOf 6 = .ok (.iload_n 2, 1) := by decide +kernel
theorem d_M_kindOf_7 : decode cc_M_kindOf 7 = .ok (.iaload, 1) := by decide +kernel
theorem d_M_kindOf_8 : decode cc_M_kindOf 8 = .ok (.aload_n 0, 1) := by decide +kernel
theorem d_M_kindOf_9 : decode cc_M_kindOf 9 = .ok (.iload_n 1, 1) := by decide +kernel
theorem d_M_kindOf_10 : decode cc_M_kindOf 10 = .ok (.invokevirtual 79, 3) := by decide +kernel
theorem d_M_kindOf_13 : decode cc_M_kindOf 13 = .ok (.if_icmp .eq 9, 3) := by decide +kernel
theorem d_M_kindOf_16 : decode cc_M_kindOf 16 = .ok (.iinc 2 1, 3) := by decide +kernel
theorem d_M_kindOf_19 : decode cc_M_kindOf 19 = .ok (.goto (-17), 3) := by decide +kernel
theorem d_M_kindOf_22 : decode cc_M_kindOf 22 = .ok (.iload_n 2, 1) := by decide +kernel
theorem d_M_kindOf_23 : decode cc_M_kindOf 23 = .ok (.ireturn, 1) := by decide +kernel
def L_M_kindOf_2 (Q : Int32 → St → Prop) : Nat → Int32 → Int32 → St → Prop
  | 0, _, _, _ => False
  | n + 1, v1, v2, z0 => vp_in v2 17 ∧ P_M_is v1 z0 (fun (x2 : Int32) (z1 : St) => (((z0.1 37 v2.toNatClampNeg) = x2) → Q v2 z1) ∧ ((¬ (z0.1 37 v2.toNatClampNeg) = x2) → ∀ x3 : Int32, x3 = v2 + 1 → L_M_kindOf_2 Q n v1 x3 z1))
def P_M_kindOf (a1 : Int32) (z0 : St) (Q : Int32 → St → Prop) : Prop := ∃ k2 : Nat, L_M_kindOf_2 Q k2 a1 (0 : Int32) z0
set_option maxHeartbeats 4000000 in
set_option maxRecDepth 100000 in
theorem wL_M_kindOf_2 {Q : Int32 → St → Prop} (E : En p l s m meth c args cc_M_kindOf 3 R_M (some .int) G) :
    ∀ (n : Nat) (v1 : Int32) (v2 : Int32) (z0 : St) (ls : Array Slot) (H : Heap) (locs : List Loc), L_M_kindOf_2 Q n v1 v2 z0 → lv_has ls 3 [(0, .ref (ha G 31)), (1, .int v1), (2, .int v2)] → Wd G z0 s.heap H locs → W p l e rm_M_kindOf s m args below meth c H locs 0 0 (MQ below (QiR Q G) args s 0 0 (fr G)) (F0 m 2 ls []) := by
  obtain ⟨hx, hb, hml, hown, hr, hlk, hex, hE⟩ := id E
  intro n
  induction n with
  | zero => exact fun _ _ _ _ _ _ hP _ _ => hP.elim
  | succ n ih =>
    intro v1 v2 z0 ls H locs hP hl hW
    refine lv_aload_n hx hb d_M_kindOf_2 rfl (lv_at hl 0 rfl) ?_
    refine ygf_31_9 hx hb hown hE hW (lk_M_30 hE) d_M_kindOf_3 ?_
    refine lv_iload_n hx hb d_M_kindOf_6 rfl (lv_at hl 2 rfl) ?_
    refine ya_37 hx hb hE hW hP.1 d_M_kindOf_7 ?_
    have hP := hP.2
    refine lv_aload_n hx hb d_M_kindOf_8 rfl (lv_at hl 0 rfl) ?_
    refine lv_iload_n hx hb d_M_kindOf_9 rfl (lv_at hl 1 rfl) ?_
    refine yc_i (yV (As := [.int v1]) (rest := [.int (z0.1 37 v2.toNatClampNeg)]) E (c_M_is _ _ _ hP) (cw_M_79 hE) (yrv_31 hE hW) (by decide) hW hl.1 rfl rfl rfl d_M_kindOf_10) hW (fun x2 z1 H locs hP hW => ?_)
    refine lv_icmp_eq (tgt := 22) hx hb d_M_kindOf_13 rfl (fun hc => ?_) (fun hc => ?_)
    · have hP := hP.1 hc
      refine lv_iload_n hx hb d_M_kindOf_22 rfl (lv_at hl 2 rfl) ?_
      exact yr_i hx hb hr hlk hW hP d_M_kindOf_23
    · have hP := hP.2 hc
      obtain ⟨x3, e_x3⟩ : ∃ z : Int32, z = v2 + 1 := ⟨_, rfl⟩
      have hP := hP x3 e_x3
      refine lv_iinc (k := 2) (lv' := [(2, .int x3), (0, .ref (ha G 31)), (1, .int v1)]) hx hb d_M_kindOf_16 hl rfl (ii_p1 e_x3) (by decide) rfl (fun ls hl => ?_)
      refine lv_goto (tgt := 2) hx hb d_M_kindOf_19 rfl ?_
      exact ih _ _ _ _ _ _ hP (lv_sub hl [1, 2, 0] rfl) hW
set_option maxHeartbeats 4000000 in
set_option maxRecDepth 100000 in
theorem c_M_kindOf {l : Launch} {G : GG} (a1 : Int32) (z0 : St) (Q : Int32 → St → Prop) (hP : P_M_kindOf a1 z0 Q) : Cti l y_M_kindOf cc_M_kindOf 3 (some .int) rm_M_kindOf G [.ref (ha G 31), .int a1] z0 Q := by
  refine Cti.op (own := R_M) (by decide) rfl (Nat.le_of_ble_eq_true rfl) (fun p e s m args below meth c ls E hl hW => ?_)
  obtain ⟨hx, hb, hml, hown, hr, hlk, hex, hE⟩ := id E
  have hl : lv_has ls 3 [(0, .ref (ha G 31)), (1, .int a1)] := hl
  refine lv_iconst (v := 0) hx hb d_M_kindOf_0 (by decide) ?_
  refine lv_istore_n (lv' := [(2, .int (0 : Int32)), (0, .ref (ha G 31)), (1, .int a1)]) hx hb d_M_kindOf_1 rfl hl (by decide) rfl (fun ls hl => ?_)
  obtain ⟨n2, hP⟩ := hP
  refine wL_M_kindOf_2 E n2 _ _ _ _ _ _ hP (lv_sub hl [1, 2, 0] rfl) hW
theorem d_M_chance_0 : decode cc_M_chance 0 = .ok (.aload_n 0, 1) := by decide +kernel
theorem d_M_chance_1 : decode cc_M_chance 1 = .ok (.aload_n 0, 1) := by decide +kernel
theorem d_M_chance_2 : decode cc_M_chance 2 = .ok (.iload_n 1, 1) := by decide +kernel
theorem d_M_chance_3 : decode cc_M_chance 3 = .ok (.invokevirtual 158, 3) := by decide +kernel
theorem d_M_chance_6 : decode cc_M_chance 6 = .ok (.ifCond .ne 7, 3) := by decide +kernel
theorem d_M_chance_9 : decode cc_M_chance 9 = .ok (.iconst 1, 1) := by decide +kernel
theorem d_M_chance_10 : decode cc_M_chance 10 = .ok (.goto 15, 3) := by decide +kernel
theorem d_M_chance_13 : decode cc_M_chance 13 = .ok (.aload_n 0, 1) := by decide +kernel
theorem d_M_chance_14 : decode cc_M_chance 14 = .ok (.invokevirtual 155, 3) := by decide +kernel
theorem d_M_chance_17 : decode cc_M_chance 17 = .ok (.ifCond .ne 7, 3) := by decide +kernel
theorem d_M_chance_20 : decode cc_M_chance 20 = .ok (.iconst 2, 1) := by decide +kernel
theorem d_M_chance_21 : decode cc_M_chance 21 = .ok (.goto 4, 3) := by decide +kernel
theorem d_M_chance_24 : decode cc_M_chance 24 = .ok (.iconst 0, 1) := by decide +kernel
theorem d_M_chance_25 : decode cc_M_chance 25 = .ok (.putfield 70, 3) := by decide +kernel
theorem d_M_chance_28 : decode cc_M_chance 28 = .ok (.aload_n 0, 1) := by decide +kernel
theorem d_M_chance_29 : decode cc_M_chance 29 = .ok (.getfield 70, 3) := by decide +kernel
theorem d_M_chance_32 : decode cc_M_chance 32 = .ok (.ifCond .le 5, 3) := by decide +kernel
theorem d_M_chance_35 : decode cc_M_chance 35 = .ok (.lconst 0, 1) := by decide +kernel
theorem d_M_chance_36 : decode cc_M_chance 36 = .ok (.lreturn, 1) := by decide +kernel
theorem d_M_chance_37 : decode cc_M_chance 37 = .ok (.aload_n 0, 1) := by decide +kernel
theorem d_M_chance_38 : decode cc_M_chance 38 = .ok (.aload_n 0, 1) := by decide +kernel
theorem d_M_chance_39 : decode cc_M_chance 39 = .ok (.iload_n 1, 1) := by decide +kernel
theorem d_M_chance_40 : decode cc_M_chance 40 = .ok (.invokevirtual 161, 3) := by decide +kernel
theorem d_M_chance_43 : decode cc_M_chance 43 = .ok (.invokevirtual 151, 3) := by decide +kernel
theorem d_M_chance_46 : decode cc_M_chance 46 = .ok (.aload_n 0, 1) := by decide +kernel
theorem d_M_chance_47 : decode cc_M_chance 47 = .ok (.iconst 0, 1) := by decide +kernel
theorem d_M_chance_48 : decode cc_M_chance 48 = .ok (.putfield 83, 3) := by decide +kernel
theorem d_M_chance_51 : decode cc_M_chance 51 = .ok (.aload_n 0, 1) := by decide +kernel
theorem d_M_chance_52 : decode cc_M_chance 52 = .ok (.getfield 43, 3) := by decide +kernel
theorem d_M_chance_55 : decode cc_M_chance 55 = .ok (.iconst 0, 1) := by decide +kernel
theorem d_M_chance_56 : decode cc_M_chance 56 = .ok (.laload, 1) := by decide +kernel
theorem d_M_chance_57 : decode cc_M_chance 57 = .ok (.lreturn, 1) := by decide +kernel
def J_M_chance_25 (Q : Int64 → St → Prop) (v1 : Int32) (t0 : Int32) (z0 : St) : Prop := ∀ z5 : St, z5 = wI z0 31 0 t0 → (((z5.1 31 0) ≤ 0) → P_M_kindOf v1 z5 (fun (x7 : Int32) (z6 : St) => P_M_work x7 z6 (fun (z8 : St) => ∀ z9 : St, z9 = wI z8 31 11 (0 : Int32) → vp_in (0 : Int32) 1010 ∧ Q (z9.2 41 (0 : Int32).toNatClampNeg) z9))) ∧ ((¬ (z5.1 31 0) ≤ 0) → Q (0 : Int64) z5)
def P_M_chance (a1 : Int32) (z0 : St) (Q : Int64 → St → Prop) : Prop := P_M_isPerson a1 z0 (fun (x2 : Int32) (z1 : St) => ((¬ x2 = 0) → P_M_counts z1 (fun (x4 : Int32) (z3 : St) => ((¬ x4 = 0) → J_M_chance_25 Q a1 (0 : Int32) z3) ∧ ((x4 = 0) → J_M_chance_25 Q a1 (2 : Int32) z3))) ∧ ((x2 = 0) → J_M_chance_25 Q a1 (1 : Int32) z1))
set_option maxHeartbeats 4000000 in
set_option maxRecDepth 100000 in
theorem wJ_M_chance_25 {Q : Int64 → St → Prop} (E : En p l s m meth c args cc_M_chance 2 R_M (some .long) G)
    (v1 : Int32) (t0 : Int32) (z0 : St) (ls : Array Slot) (H : Heap) (locs : List Loc) (hP : J_M_chance_25 Q v1 t0 z0) (hl : lv_has ls 2 [(0, .ref (ha G 31)), (1, .int v1)]) (hW : Wd G z0 s.heap H locs) : W p l e rm_M_chance s m args below meth c H locs 0 0 (MQ below (QlR Q G) args s 0 0 (fr G)) (F0 m 25 ls [.int t0, .ref (ha G 31)]) := by
  obtain ⟨hx, hb, hml, hown, hr, hlk, hex, hE⟩ := id E
  refine ypf_31_0 hx hb hown hE hW (lk_M_70 hE) d_M_chance_25 (fun z5 H locs e_z5 hW => ?_)
  have hP := hP z5 e_z5
  refine lv_aload_n hx hb d_M_chance_28 rfl (lv_at hl 0 rfl) ?_
  refine ygf_31_0 hx hb hown hE hW (lk_M_70 hE) d_M_chance_29 ?_
  refine lv_if_le (tgt := 37) hx hb d_M_chance_32 rfl (fun hc => ?_) (fun hc => ?_)
  · have hP := hP.1 hc
    refine lv_aload_n hx hb d_M_chance_37 rfl (lv_at hl 0 rfl) ?_
    refine lv_aload_n hx hb d_M_chance_38 rfl (lv_at hl 0 rfl) ?_
    refine lv_iload_n hx hb d_M_chance_39 rfl (lv_at hl 1 rfl) ?_
    refine yc_i (yV (As := [.int v1]) (rest := [.ref (ha G 31)]) E (c_M_kindOf _ _ _ hP) (cw_M_161 hE) (yrv_31 hE hW) (by decide) hW hl.1 rfl rfl rfl d_M_chance_40) hW (fun x7 z6 H locs hP hW => ?_)
    refine yc_v (yV (As := [.int x7]) (rest := []) E (c_M_work _ _ _ hP) (cw_M_151 hE) (yrv_31 hE hW) (by decide) hW hl.1 rfl rfl rfl d_M_chance_43) hW (fun z8 H locs hP hW => ?_)
    refine lv_aload_n hx hb d_M_chance_46 rfl (lv_at hl 0 rfl) ?_
    refine lv_iconst (v := 0) hx hb d_M_chance_47 (by decide) ?_
    refine ypf_31_11 hx hb hown hE hW zb_0 (lk_M_83 hE) d_M_chance_48 (fun z9 H locs e_z9 hW => ?_)
    have hP := hP z9 e_z9
    refine lv_aload_n hx hb d_M_chance_51 rfl (lv_at hl 0 rfl) ?_
    refine ygf_31_16 hx hb hown hE hW (lk_M_43 hE) d_M_chance_52 ?_
    refine lv_iconst (v := 0) hx hb d_M_chance_55 (by decide) ?_
    refine ya_41 hx hb hE hW hP.1 d_M_chance_56 ?_
    have hP := hP.2
    exact yr_l hx hb hr hlk hW hP d_M_chance_57
  · have hP := hP.2 hc
    refine lv_lconst (v := 0) hx hb d_M_chance_35 (by decide) ?_
    exact yr_l hx hb hr hlk hW hP d_M_chance_36
set_option maxHeartbeats 4000000 in
set_option maxRecDepth 100000 in
theorem c_M_chance {l : Launch} {G : GG} (a1 : Int32) (z0 : St) (Q : Int64 → St → Prop) (hP : P_M_chance a1 z0 Q) : Ctl l y_M_chance cc_M_chance 2 (some .long) rm_M_chance G [.ref (ha G 31), .int a1] z0 Q := by
  refine Ctl.op (own := R_M) (by decide) rfl (Nat.le_of_ble_eq_true rfl) (fun p e s m args below meth c ls E hl hW => ?_)
  obtain ⟨hx, hb, hml, hown, hr, hlk, hex, hE⟩ := id E
  have hl : lv_has ls 2 [(0, .ref (ha G 31)), (1, .int a1)] := hl
  refine lv_aload_n hx hb d_M_chance_0 rfl (lv_at hl 0 rfl) ?_
  refine lv_aload_n hx hb d_M_chance_1 rfl (lv_at hl 0 rfl) ?_
  refine lv_iload_n hx hb d_M_chance_2 rfl (lv_at hl 1 rfl) ?_
  refine yc_i (yV (As := [.int a1]) (rest := [.ref (ha G 31)]) E (c_M_isPerson _ _ _ hP) (cw_M_158 hE) (yrv_31 hE hW) (by decide) hW hl.1 rfl rfl rfl d_M_chance_3) hW (fun x2 z1 H locs hP hW => ?_)
  refine lv_if_ne (tgt := 13) hx hb d_M_chance_6 rfl (fun hc => ?_) (fun hc => ?_)
  · have hP := hP.1 hc
    refine lv_aload_n hx hb d_M_chance_13 rfl (lv_at hl 0 rfl) ?_
    refine yc_i (yV (As := []) (rest := [.ref (ha G 31)]) E (c_M_counts _ _ hP) (cw_M_155 hE) (yrv_31 hE hW) (by decide) hW hl.1 rfl rfl rfl d_M_chance_14) hW (fun x4 z3 H locs hP hW => ?_)
    refine lv_if_ne (tgt := 24) hx hb d_M_chance_17 rfl (fun hc => ?_) (fun hc => ?_)
    · have hP := hP.1 hc
      refine lv_iconst (v := 0) hx hb d_M_chance_24 (by decide) ?_
      exact wJ_M_chance_25 E _ _ _ _ _ _ hP hl hW
    · have hP := hP.2 hc
      refine lv_iconst (v := 2) hx hb d_M_chance_20 (by decide) ?_
      refine lv_goto (tgt := 25) hx hb d_M_chance_21 rfl ?_
      exact wJ_M_chance_25 E _ _ _ _ _ _ hP hl hW
  · have hP := hP.2 hc
    refine lv_iconst (v := 1) hx hb d_M_chance_9 (by decide) ?_
    refine lv_goto (tgt := 25) hx hb d_M_chance_10 rfl ?_
    exact wJ_M_chance_25 E _ _ _ _ _ _ hP hl hW
theorem d_M_kind_0 : decode cc_M_kind 0 = .ok (.aload_n 0, 1) := by decide +kernel
theorem d_M_kind_1 : decode cc_M_kind 1 = .ok (.iload_n 1, 1) := by decide +kernel
theorem d_M_kind_2 : decode cc_M_kind 2 = .ok (.iconst (-1), 1) := by decide +kernel
theorem d_M_kind_3 : decode cc_M_kind 3 = .ok (.if_icmp .eq 11, 3) := by decide +kernel
theorem d_M_kind_6 : decode cc_M_kind 6 = .ok (.aload_n 0, 1) := by decide +kernel
theorem d_M_kind_7 : decode cc_M_kind 7 = .ok (.iload_n 1, 1) := by decide +kernel
theorem d_M_kind_8 : decode cc_M_kind 8 = .ok (.invokevirtual 158, 3) := by decide +kernel
theorem d_M_kind_11 : decode cc_M_kind 11 = .ok (.ifCond .eq 7, 3) := by decide +kernel
theorem d_M_kind_14 : decode cc_M_kind 14 = .ok (.iconst 0, 1) := by decide +kernel
theorem d_M_kind_15 : decode cc_M_kind 15 = .ok (.goto 4, 3) := by decide +kernel
theorem d_M_kind_18 : decode cc_M_kind 18 = .ok (.iconst 1, 1) := by decide +kernel
theorem d_M_kind_19 : decode cc_M_kind 19 = .ok (.putfield 70, 3) := by decide +kernel
theorem d_M_kind_22 : decode cc_M_kind 22 = .ok (.aload_n 0, 1) := by decide +kernel
theorem d_M_kind_23 : decode cc_M_kind 23 = .ok (.getfield 70, 3) := by decide +kernel
theorem d_M_kind_26 : decode cc_M_kind 26 = .ok (.ifCond .le 7, 3) := by decide +kernel
theorem d_M_kind_29 : decode cc_M_kind 29 = .ok (.iconst 0, 1) := by decide +kernel
theorem d_M_kind_30 : decode cc_M_kind 30 = .ok (.goto 20, 3) := by decide +kernel
theorem d_M_kind_33 : decode cc_M_kind 33 = .ok (.iload_n 1, 1) := by decide +kernel
theorem d_M_kind_34 : decode cc_M_kind 34 = .ok (.iconst (-1), 1) := by decide +kernel
theorem d_M_kind_35 : decode cc_M_kind 35 = .ok (.if_icmp .ne 10, 3) := by decide +kernel
theorem d_M_kind_38 : decode cc_M_kind 38 = .ok (.aload_n 0, 1) := by decide +kernel
theorem d_M_kind_39 : decode cc_M_kind 39 = .ok (.getfield 73, 3) := by decide +kernel
theorem d_M_kind_42 : decode cc_M_kind 42 = .ok (.goto 8, 3) := by decide +kernel
theorem d_M_kind_45 : decode cc_M_kind 45 = .ok (.aload_n 0, 1) := by decide +kernel
theorem d_M_kind_46 : decode cc_M_kind 46 = .ok (.iload_n 1, 1) := by decide +kernel
theorem d_M_kind_47 : decode cc_M_kind 47 = .ok (.invokevirtual 161, 3) := by decide +kernel
theorem d_M_kind_50 : decode cc_M_kind 50 = .ok (.ireturn, 1) := by decide +kernel
def J_M_kind_19 (Q : Int32 → St → Prop) (v1 : Int32) (t0 : Int32) (z0 : St) : Prop := ∀ z1 : St, z1 = wI z0 31 0 t0 → (((z1.1 31 0) ≤ 0) → ((¬ v1 = (-1 : Int32)) → P_M_kindOf v1 z1 (fun (x3 : Int32) (z2 : St) => Q x3 z2)) ∧ ((v1 = (-1 : Int32)) → Q (z1.1 31 8) z1)) ∧ ((¬ (z1.1 31 0) ≤ 0) → Q (0 : Int32) z1)
def P_M_kind (a1 : Int32) (z0 : St) (Q : Int32 → St → Prop) : Prop := ((a1 = (-1 : Int32)) → J_M_kind_19 Q a1 (0 : Int32) z0) ∧ ((¬ a1 = (-1 : Int32)) → P_M_isPerson a1 z0 (fun (x5 : Int32) (z4 : St) => ((x5 = 0) → J_M_kind_19 Q a1 (1 : Int32) z4) ∧ ((¬ x5 = 0) → J_M_kind_19 Q a1 (0 : Int32) z4)))
set_option maxHeartbeats 4000000 in
set_option maxRecDepth 100000 in
theorem wJ_M_kind_19 {Q : Int32 → St → Prop} (E : En p l s m meth c args cc_M_kind 2 R_M (some .int) G)
    (v1 : Int32) (t0 : Int32) (z0 : St) (ls : Array Slot) (H : Heap) (locs : List Loc) (hP : J_M_kind_19 Q v1 t0 z0) (hl : lv_has ls 2 [(0, .ref (ha G 31)), (1, .int v1)]) (hW : Wd G z0 s.heap H locs) : W p l e rm_M_kind s m args below meth c H locs 0 0 (MQ below (QiR Q G) args s 0 0 (fr G)) (F0 m 19 ls [.int t0, .ref (ha G 31)]) := by
  obtain ⟨hx, hb, hml, hown, hr, hlk, hex, hE⟩ := id E
  refine ypf_31_0 hx hb hown hE hW (lk_M_70 hE) d_M_kind_19 (fun z1 H locs e_z1 hW => ?_)
  have hP := hP z1 e_z1
  refine lv_aload_n hx hb d_M_kind_22 rfl (lv_at hl 0 rfl) ?_
  refine ygf_31_0 hx hb hown hE hW (lk_M_70 hE) d_M_kind_23 ?_
  refine lv_if_le (tgt := 33) hx hb d_M_kind_26 rfl (fun hc => ?_) (fun hc => ?_)
  · have hP := hP.1 hc
    refine lv_iload_n hx hb d_M_kind_33 rfl (lv_at hl 1 rfl) ?_
    refine lv_iconst (v := -1) hx hb d_M_kind_34 (by decide) ?_
    refine lv_icmp_ne (tgt := 45) hx hb d_M_kind_35 rfl (fun hc => ?_) (fun hc => ?_)
    · have hP := hP.1 hc
      refine lv_aload_n hx hb d_M_kind_45 rfl (lv_at hl 0 rfl) ?_
      refine lv_iload_n hx hb d_M_kind_46 rfl (lv_at hl 1 rfl) ?_
      refine yc_i (yV (As := [.int v1]) (rest := []) E (c_M_kindOf _ _ _ hP) (cw_M_161 hE) (yrv_31 hE hW) (by decide) hW hl.1 rfl rfl rfl d_M_kind_47) hW (fun x3 z2 H locs hP hW => ?_)
      exact yr_i hx hb hr hlk hW hP d_M_kind_50
    · have hP := hP.2 hc
      refine lv_aload_n hx hb d_M_kind_38 rfl (lv_at hl 0 rfl) ?_
      refine ygf_31_8 hx hb hown hE hW (lk_M_73 hE) d_M_kind_39 ?_
      refine lv_goto (tgt := 50) hx hb d_M_kind_42 rfl ?_
      exact yr_i hx hb hr hlk hW hP d_M_kind_50
  · have hP := hP.2 hc
    refine lv_iconst (v := 0) hx hb d_M_kind_29 (by decide) ?_
    refine lv_goto (tgt := 50) hx hb d_M_kind_30 rfl ?_
    exact yr_i hx hb hr hlk hW hP d_M_kind_50
set_option maxHeartbeats 4000000 in
set_option maxRecDepth 100000 in
theorem c_M_kind {l : Launch} {G : GG} (a1 : Int32) (z0 : St) (Q : Int32 → St → Prop) (hP : P_M_kind a1 z0 Q) : Cti l y_M_kind cc_M_kind 2 (some .int) rm_M_kind G [.ref (ha G 31), .int a1] z0 Q := by
  refine Cti.op (own := R_M) (by decide) rfl (Nat.le_of_ble_eq_true rfl) (fun p e s m args below meth c ls E hl hW => ?_)
  obtain ⟨hx, hb, hml, hown, hr, hlk, hex, hE⟩ := id E
  have hl : lv_has ls 2 [(0, .ref (ha G 31)), (1, .int a1)] := hl
  refine lv_aload_n hx hb d_M_kind_0 rfl (lv_at hl 0 rfl) ?_
  refine lv_iload_n hx hb d_M_kind_1 rfl (lv_at hl 1 rfl) ?_
  refine lv_iconst (v := -1) hx hb d_M_kind_2 (by decide) ?_
  refine lv_icmp_eq (tgt := 14) hx hb d_M_kind_3 rfl (fun hc => ?_) (fun hc => ?_)
  · have hP := hP.1 hc
    refine lv_iconst (v := 0) hx hb d_M_kind_14 (by decide) ?_
    refine lv_goto (tgt := 19) hx hb d_M_kind_15 rfl ?_
    exact wJ_M_kind_19 E _ _ _ _ _ _ hP hl hW
  · have hP := hP.2 hc
    refine lv_aload_n hx hb d_M_kind_6 rfl (lv_at hl 0 rfl) ?_
    refine lv_iload_n hx hb d_M_kind_7 rfl (lv_at hl 1 rfl) ?_
    refine yc_i (yV (As := [.int a1]) (rest := [.ref (ha G 31)]) E (c_M_isPerson _ _ _ hP) (cw_M_158 hE) (yrv_31 hE hW) (by decide) hW hl.1 rfl rfl rfl d_M_kind_8) hW (fun x5 z4 H locs hP hW => ?_)
    refine lv_if_eq (tgt := 18) hx hb d_M_kind_11 rfl (fun hc => ?_) (fun hc => ?_)
    · have hP := hP.1 hc
      refine lv_iconst (v := 1) hx hb d_M_kind_18 (by decide) ?_
      exact wJ_M_kind_19 E _ _ _ _ _ _ hP hl hW
    · have hP := hP.2 hc
      refine lv_iconst (v := 0) hx hb d_M_kind_14 (by decide) ?_
      refine lv_goto (tgt := 19) hx hb d_M_kind_15 rfl ?_
      exact wJ_M_kind_19 E _ _ _ _ _ _ hP hl hW
theorem d_M_left_0 : decode cc_M_left 0 = .ok (.iconst (-1), 1) := by decide +kernel
theorem d_M_left_1 : decode cc_M_left 1 = .ok (.istore_n 2, 1) := by decide +kernel
theorem d_M_left_2 : decode cc_M_left 2 = .ok (.iconst 0, 1) := by decide +kernel
theorem d_M_left_3 : decode cc_M_left 3 = .ok (.istore_n 3, 1) := by decide +kernel
theorem d_M_left_4 : decode cc_M_left 4 = .ok (.iconst 0, 1) := by decide +kernel
theorem d_M_left_5 : decode cc_M_left 5 = .ok (.istore 4, 2) := by decide +kernel
theorem d_M_left_7 : decode cc_M_left 7 = .ok (.iload 4, 2) := by decide +kernel
theorem d_M_left_9 : decode cc_M_left 9 = .ok (.bipush 12, 2) := by decide +kernel
theorem d_M_left_11 : decode cc_M_left 11 = .ok (.if_icmp .ge 162, 3) := by decide +kernel
theorem d_M_left_14 : decode cc_M_left 14 = .ok (.aload_n 0, 1) := by decide +kernel
theorem d_M_left_15 : decode cc_M_left 15 = .ok (.getfield 70, 3) := by decide +kernel
theorem d_M_left_18 : decode cc_M_left 18 = .ok (.ifCond .ne 155, 3) := by decide +kernel
theorem d_M_left_21 : decode cc_M_left 21 = .ok (.iload 4, 2) := by decide +kernel
theorem d_M_left_23 : decode cc_M_left 23 = .ok (.iconst 4, 1) := by decide +kernel
theorem d_M_left_24 : decode cc_M_left 24 = .ok (.irem, 1) := by decide +kernel
theorem d_M_left_25 : decode cc_M_left 25 = .ok (.aload_n 0, 1) := by decide +kernel
theorem d_M_left_26 : decode cc_M_left 26 = .ok (.getfield 17, 3) := by decide +kernel
theorem d_M_left_29 : decode cc_M_left 29 = .ok (.iload 4, 2) := by decide +kernel
theorem d_M_left_31 : decode cc_M_left 31 = .ok (.iconst 4, 1) := by decide +kernel
theorem d_M_left_32 : decode cc_M_left 32 = .ok (.idiv, 1) := by decide +kernel
theorem d_M_left_33 : decode cc_M_left 33 = .ok (.iaload, 1) := by decide +kernel
theorem d_M_left_34 : decode cc_M_left 34 = .ok (.if_icmp .ge 133, 3) := by decide +kernel
theorem d_M_left_37 : decode cc_M_left 37 = .ok (.aload_n 0, 1) := by decide +kernel
theorem d_M_left_38 : decode cc_M_left 38 = .ok (.getfield 20, 3) := by decide +kernel
theorem d_M_left_41 : decode cc_M_left 41 = .ok (.iload 4, 2) := by decide +kernel
theorem d_M_left_43 : decode cc_M_left 43 = .ok (.iaload, 1) := by decide +kernel
theorem d_M_left_44 : decode cc_M_left 44 = .ok (.ifCond .ne 18, 3) := by decide +kernel
theorem d_M_left_47 : decode cc_M_left 47 = .ok (.aload_n 0, 1) := by decide +kernel
theorem d_M_left_48 : decode cc_M_left 48 = .ok (.getfield 23, 3) := by decide +kernel
theorem d_M_left_51 : decode cc_M_left 51 = .ok (.iload 4, 2) := by decide +kernel
theorem d_M_left_53 : decode cc_M_left 53 = .ok (.iaload, 1) := by decide +kernel
theorem d_M_left_54 : decode cc_M_left 54 = .ok (.bipush 8, 2) := by decide +kernel
theorem d_M_left_56 : decode cc_M_left 56 = .ok (.if_icmp .ne 6, 3) := by decide +kernel
theorem d_M_left_59 : decode cc_M_left 59 = .ok (.goto 108, 3) := by decide +kernel
theorem d_M_left_62 : decode cc_M_left 62 = .ok (.aload_n 0, 1) := by decide +kernel
theorem d_M_left_63 : decode cc_M_left 63 = .ok (.getfield 20, 3) := by decide +kernel
theorem d_M_left_66 : decode cc_M_left 66 = .ok (.iload 4, 2) := by decide +kernel
theorem d_M_left_68 : decode cc_M_left 68 = .ok (.iaload, 1) := by decide +kernel
theorem d_M_left_69 : decode cc_M_left 69 = .ok (.istore 5, 2) := by decide +kernel
theorem d_M_left_71 : decode cc_M_left 71 = .ok (.aload_n 0, 1) := by decide +kernel
theorem d_M_left_72 : decode cc_M_left 72 = .ok (.getfield 23, 3) := by decide +kernel
theorem d_M_left_75 : decode cc_M_left 75 = .ok (.iload 4, 2) := by decide +kernel
theorem d_M_left_77 : decode cc_M_left 77 = .ok (.iaload, 1) := by decide +kernel
theorem d_M_left_78 : decode cc_M_left 78 = .ok (.istore 6, 2) := by decide +kernel
theorem d_M_left_80 : decode cc_M_left 80 = .ok (.aload_n 0, 1) := by decide +kernel
theorem d_M_left_81 : decode cc_M_left 81 = .ok (.getfield 20, 3) := by decide +kernel
theorem d_M_left_84 : decode cc_M_left 84 = .ok (.iload 4, 2) := by decide +kernel
theorem d_M_left_86 : decode cc_M_left 86 = .ok (.iconst 0, 1) := by decide +kernel
theorem d_M_left_87 : decode cc_M_left 87 = .ok (.iastore, 1) := by decide +kernel
theorem d_M_left_88 : decode cc_M_left 88 = .ok (.aload_n 0, 1) := by decide +kernel
theorem d_M_left_89 : decode cc_M_left 89 = .ok (.getfield 23, 3) := by decide +kernel
theorem d_M_left_92 : decode cc_M_left 92 = .ok (.iload 4, 2) := by decide +kernel
theorem d_M_left_94 : decode cc_M_left 94 = .ok (.bipush 8, 2) := by decide +kernel
theorem d_M_left_96 : decode cc_M_left 96 = .ok (.iastore, 1) := by decide +kernel
theorem d_M_left_97 : decode cc_M_left 97 = .ok (.aload_n 0, 1) := by decide +kernel
theorem d_M_left_98 : decode cc_M_left 98 = .ok (.iconst (-1), 1) := by decide +kernel
theorem d_M_left_99 : decode cc_M_left 99 = .ok (.invokevirtual 151, 3) := by decide +kernel
theorem d_M_left_102 : decode cc_M_left 102 = .ok (.aload_n 0, 1) := by decide +kernel
theorem d_M_left_103 : decode cc_M_left 103 = .ok (.getfield 123, 3) := by decide +kernel
theorem d_M_left_106 : decode cc_M_left 106 = .ok (.ifCond .eq 11, 3) := by decide +kernel
theorem d_M_left_109 : decode cc_M_left 109 = .ok (.aload_n 0, 1) := by decide +kernel
theorem d_M_left_110 : decode cc_M_left 110 = .ok (.iconst 2, 1) := by decide +kernel
theorem d_M_left_111 : decode cc_M_left 111 = .ok (.putfield 70, 3) := by decide +kernel
theorem d_M_left_114 : decode cc_M_left 114 = .ok (.goto 53, 3) := by decide +kernel
theorem d_M_left_117 : decode cc_M_left 117 = .ok (.aload_n 0, 1) := by decide +kernel
theorem d_M_left_118 : decode cc_M_left 118 = .ok (.getfield 43, 3) := by decide +kernel
theorem d_M_left_121 : decode cc_M_left 121 = .ok (.iconst 0, 1) := by decide +kernel
theorem d_M_left_122 : decode cc_M_left 122 = .ok (.laload, 1) := by decide +kernel
theorem d_M_left_123 : decode cc_M_left 123 = .ok (.lconst 0, 1) := by decide +kernel
theorem d_M_left_124 : decode cc_M_left 124 = .ok (.lcmp, 1) := by decide +kernel
theorem d_M_left_125 : decode cc_M_left 125 = .ok (.ifCond .le 42, 3) := by decide +kernel
theorem d_M_left_128 : decode cc_M_left 128 = .ok (.aload_n 0, 1) := by decide +kernel
theorem d_M_left_129 : decode cc_M_left 129 = .ok (.getfield 20, 3) := by decide +kernel
theorem d_M_left_132 : decode cc_M_left 132 = .ok (.iload 4, 2) := by decide +kernel
theorem d_M_left_134 : decode cc_M_left 134 = .ok (.iload 5, 2) := by decide +kernel
theorem d_M_left_136 : decode cc_M_left 136 = .ok (.iastore, 1) := by decide +kernel
theorem d_M_left_137 : decode cc_M_left 137 = .ok (.aload_n 0, 1) := by decide +kernel
theorem d_M_left_138 : decode cc_M_left 138 = .ok (.getfield 23, 3) := by decide +kernel
theorem d_M_left_141 : decode cc_M_left 141 = .ok (.iload 4, 2) := by decide +kernel
theorem d_M_left_143 : decode cc_M_left 143 = .ok (.iload 6, 2) := by decide +kernel
theorem d_M_left_145 : decode cc_M_left 145 = .ok (.iastore, 1) := by decide +kernel
theorem d_M_left_146 : decode cc_M_left 146 = .ok (.iload_n 3, 1) := by decide +kernel
theorem d_M_left_147 : decode cc_M_left 147 = .ok (.iload_n 1, 1) := by decide +kernel
theorem d_M_left_148 : decode cc_M_left 148 = .ok (.if_icmp .ne 16, 3) := by decide +kernel
theorem d_M_left_151 : decode cc_M_left 151 = .ok (.bipush 10, 2) := by decide +kernel
theorem d_M_left_153 : decode cc_M_left 153 = .ok (.iload 4, 2) := by decide +kernel
theorem d_M_left_155 : decode cc_M_left 155 = .ok (.iconst 4, 1) := by decide +kernel
theorem d_M_left_156 : decode cc_M_left 156 = .ok (.idiv, 1) := by decide +kernel
theorem d_M_left_157 : decode cc_M_left 157 = .ok (.imul, 1) := by decide +kernel
theorem d_M_left_158 : decode cc_M_left 158 = .ok (.iload 4, 2) := by decide +kernel
theorem d_M_left_160 : decode cc_M_left 160 = .ok (.iconst 4, 1) := by decide +kernel
theorem d_M_left_161 : decode cc_M_left 161 = .ok (.irem, 1) := by decide +kernel
theorem d_M_left_162 : decode cc_M_left 162 = .ok (.iadd, 1) := by decide +kernel
theorem d_M_left_163 : decode cc_M_left 163 = .ok (.istore_n 2, 1) := by decide +kernel
theorem d_M_left_164 : decode cc_M_left 164 = .ok (.iinc 3 1, 3) := by decide +kernel
theorem d_M_left_167 : decode cc_M_left 167 = .ok (.iinc 4 1, 3) := by decide +kernel
theorem d_M_left_170 : decode cc_M_left 170 = .ok (.goto (-163), 3) := by decide +kernel
theorem d_M_left_173 : decode cc_M_left 173 = .ok (.iload_n 2, 1) := by decide +kernel
theorem d_M_left_174 : decode cc_M_left 174 = .ok (.ireturn, 1) := by decide +kernel
def J_M_left_164 (K7 : Int32 → Int32 → Int32 → Int32 → St → Prop) (Q : Int32 → St → Prop) (v1 : Int32) (v2 : Int32) (v3 : Int32) (v4 : Int32) (z0 : St) : Prop := ∀ x10 : Int32, x10 = v3 + 1 → ∀ x11 : Int32, x11 = v4 + 1 → K7 v1 v2 x10 x11 z0
def J_M_left_62 (K7 : Int32 → Int32 → Int32 → Int32 → St → Prop) (Q : Int32 → St → Prop) (v1 : Int32) (v2 : Int32) (v3 : Int32) (v4 : Int32) (z0 : St) : Prop := vp_in v4 12 ∧ ∀ x2 : Int32, x2 = (z0.1 35 v4.toNatClampNeg) → vp_in v4 12 ∧ ∀ x3 : Int32, x3 = (z0.1 36 v4.toNatClampNeg) → vp_in v4 12 ∧ ∀ z4 : St, z4 = wI z0 35 v4.toNatClampNeg (0 : Int32) → vp_in v4 12 ∧ ∀ z5 : St, z5 = wI z4 36 v4.toNatClampNeg (8 : Int32) → P_M_work (-1 : Int32) z5 (fun (z6 : St) => (((z6.1 31 12) = 0) → vp_in (0 : Int32) 1010 ∧ (((z6.2 41 (0 : Int32).toNatClampNeg) ≤ (0 : Int64)) → ∀ x7 : Int32, x7 = v4 + 1 → K7 v1 v2 v3 x7 z6) ∧ ((¬ (z6.2 41 (0 : Int32).toNatClampNeg) ≤ (0 : Int64)) → vp_in v4 12 ∧ ∀ z8 : St, z8 = wI z6 35 v4.toNatClampNeg x2 → vp_in v4 12 ∧ ∀ z9 : St, z9 = wI z8 36 v4.toNatClampNeg x3 → ((¬ v3 = v1) → J_M_left_164 K7 Q v1 v2 v3 v4 z9) ∧ ((v3 = v1) → ∀ x12 : Int32, x12 = ((10 : Int32) * (v4 / (4 : Int32))) + (v4 - v4 / (4 : Int32) * (4 : Int32)) → J_M_left_164 K7 Q v1 x12 v3 v4 z9))) ∧ ((¬ (z6.1 31 12) = 0) → ∀ z13 : St, z13 = wI z6 31 0 (2 : Int32) → ∀ x14 : Int32, x14 = v4 + 1 → K7 v1 v2 v3 x14 z13))
def L_M_left_7 (Q : Int32 → St → Prop) : Nat → Int32 → Int32 → Int32 → Int32 → St → Prop
  | 0, _, _, _, _, _ => False
  | n + 1, v1, v2, v3, v4, z0 => (((12 : Int32) ≤ v4) → Q v2 z0) ∧ ((¬ (12 : Int32) ≤ v4) → ((¬ (z0.1 31 0) = 0) → Q v2 z0) ∧ (((z0.1 31 0) = 0) → vp_in (v4 / (4 : Int32)) 3 ∧ (((z0.1 34 (v4 / (4 : Int32)).toNatClampNeg) ≤ (v4 - v4 / (4 : Int32) * (4 : Int32))) → ∀ x1 : Int32, x1 = v4 + 1 → L_M_left_7 Q n v1 v2 v3 x1 z0) ∧ ((¬ (z0.1 34 (v4 / (4 : Int32)).toNatClampNeg) ≤ (v4 - v4 / (4 : Int32) * (4 : Int32))) → vp_in v4 12 ∧ ((¬ (z0.1 35 v4.toNatClampNeg) = 0) → J_M_left_62 (L_M_left_7 Q n) Q v1 v2 v3 v4 z0) ∧ (((z0.1 35 v4.toNatClampNeg) = 0) → vp_in v4 12 ∧ ((¬ (z0.1 36 v4.toNatClampNeg) = (8 : Int32)) → J_M_left_62 (L_M_left_7 Q n) Q v1 v2 v3 v4 z0) ∧ (((z0.1 36 v4.toNatClampNeg) = (8 : Int32)) → ∀ x15 : Int32, x15 = v4 + 1 → L_M_left_7 Q n v1 v2 v3 x15 z0)))))
def P_M_left (a1 : Int32) (z0 : St) (Q : Int32 → St → Prop) : Prop := ∃ k7 : Nat, L_M_left_7 Q k7 a1 (-1 : Int32) (0 : Int32) (0 : Int32) z0
set_option maxHeartbeats 4000000 in
set_option maxRecDepth 100000 in
theorem wJ_M_left_164 {K7 : Int32 → Int32 → Int32 → Int32 → St → Prop} {Q : Int32 → St → Prop} (E : En p l s m meth c args cc_M_left 7 R_M (some .int) G)
    (hK7 : ∀ (v1 : Int32) (v2 : Int32) (v3 : Int32) (v4 : Int32) (z0 : St) (ls : Array Slot) (H : Heap) (locs : List Loc), K7 v1 v2 v3 v4 z0 → lv_has ls 7 [(0, .ref (ha G 31)), (1, .int v1), (2, .int v2), (3, .int v3), (4, .int v4)] → Wd G z0 s.heap H locs → W p l e rm_M_left s m args below meth c H locs 0 0 (MQ below (QiR Q G) args s 0 0 (fr G)) (F0 m 7 ls []))
    (v1 : Int32) (v2 : Int32) (v3 : Int32) (v4 : Int32) (z0 : St) (ls : Array Slot) (H : Heap) (locs : List Loc) (hP : J_M_left_164 K7 Q v1 v2 v3 v4 z0) (hl : lv_has ls 7 [(0, .ref (ha G 31)), (1, .int v1), (2, .int v2), (3, .int v3), (4, .int v4)]) (hW : Wd G z0 s.heap H locs) : W p l e rm_M_left s m args below meth c H locs 0 0 (MQ below (QiR Q G) args s 0 0 (fr G)) (F0 m 164 ls []) := by
  obtain ⟨hx, hb, hml, hown, hr, hlk, hex, hE⟩ := id E
  obtain ⟨x10, e_x10⟩ : ∃ z : Int32, z = v3 + 1 := ⟨_, rfl⟩
  have hP := hP x10 e_x10
  refine lv_iinc (k := 3) (lv' := [(3, .int x10), (0, .ref (ha G 31)), (1, .int v1), (2, .int v2), (4, .int v4)]) hx hb d_M_left_164 hl rfl (ii_p1 e_x10) (by decide) rfl (fun ls hl => ?_)
  obtain ⟨x11, e_x11⟩ : ∃ z : Int32, z = v4 + 1 := ⟨_, rfl⟩
  have hP := hP x11 e_x11
  refine lv_iinc (k := 4) (lv' := [(4, .int x11), (3, .int x10), (0, .ref (ha G 31)), (1, .int v1), (2, .int v2)]) hx hb d_M_left_167 hl rfl (ii_p1 e_x11) (by decide) rfl (fun ls hl => ?_)
  refine lv_goto (tgt := 7) hx hb d_M_left_170 rfl ?_
  exact hK7 _ _ _ _ _ _ _ _ hP (lv_sub hl [2, 3, 4, 1, 0] rfl) hW
set_option maxHeartbeats 4000000 in
set_option maxRecDepth 100000 in
theorem wJ_M_left_62 {K7 : Int32 → Int32 → Int32 → Int32 → St → Prop} {Q : Int32 → St → Prop} (E : En p l s m meth c args cc_M_left 7 R_M (some .int) G)
    (hK7 : ∀ (v1 : Int32) (v2 : Int32) (v3 : Int32) (v4 : Int32) (z0 : St) (ls : Array Slot) (H : Heap) (locs : List Loc), K7 v1 v2 v3 v4 z0 → lv_has ls 7 [(0, .ref (ha G 31)), (1, .int v1), (2, .int v2), (3, .int v3), (4, .int v4)] → Wd G z0 s.heap H locs → W p l e rm_M_left s m args below meth c H locs 0 0 (MQ below (QiR Q G) args s 0 0 (fr G)) (F0 m 7 ls []))
    (v1 : Int32) (v2 : Int32) (v3 : Int32) (v4 : Int32) (z0 : St) (ls : Array Slot) (H : Heap) (locs : List Loc) (hP : J_M_left_62 K7 Q v1 v2 v3 v4 z0) (hl : lv_has ls 7 [(0, .ref (ha G 31)), (1, .int v1), (2, .int v2), (3, .int v3), (4, .int v4)]) (hW : Wd G z0 s.heap H locs) : W p l e rm_M_left s m args below meth c H locs 0 0 (MQ below (QiR Q G) args s 0 0 (fr G)) (F0 m 62 ls []) := by
  obtain ⟨hx, hb, hml, hown, hr, hlk, hex, hE⟩ := id E
  refine lv_aload_n hx hb d_M_left_62 rfl (lv_at hl 0 rfl) ?_
  refine ygf_31_5 hx hb hown hE hW (lk_M_20 hE) d_M_left_63 ?_
  refine lv_iload hx hb d_M_left_66 (lv_at hl 4 rfl) ?_
  refine ya_35 hx hb hE hW hP.1 d_M_left_68 ?_
  have hP := hP.2
  refine lv_topi (fun x2 e_x2 => ?_)
  have hP := hP x2 e_x2
  refine lv_istore (lv' := [(5, .int x2), (0, .ref (ha G 31)), (1, .int v1), (2, .int v2), (3, .int v3), (4, .int v4)]) hx hb d_M_left_69 hl (by decide) rfl (fun ls hl => ?_)
  refine lv_aload_n hx hb d_M_left_71 rfl (lv_at hl 1 rfl) ?_
  refine ygf_31_6 hx hb hown hE hW (lk_M_23 hE) d_M_left_72 ?_
  refine lv_iload hx hb d_M_left_75 (lv_at hl 5 rfl) ?_
  refine ya_36 hx hb hE hW hP.1 d_M_left_77 ?_
  have hP := hP.2
  refine lv_topi (fun x3 e_x3 => ?_)
  have hP := hP x3 e_x3
  refine lv_istore (lv' := [(6, .int x3), (5, .int x2), (0, .ref (ha G 31)), (1, .int v1), (2, .int v2), (3, .int v3), (4, .int v4)]) hx hb d_M_left_78 hl (by decide) rfl (fun ls hl => ?_)
  refine lv_aload_n hx hb d_M_left_80 rfl (lv_at hl 2 rfl) ?_
  refine ygf_31_5 hx hb hown hE hW (lk_M_20 hE) d_M_left_81 ?_
  refine lv_iload hx hb d_M_left_84 (lv_at hl 6 rfl) ?_
  refine lv_iconst (v := 0) hx hb d_M_left_86 (by decide) ?_
  refine ys_35 hx hb hE hW hP.1 d_M_left_87 (fun z4 H locs e_z4 hW => ?_)
  have hP := hP.2
  have hP := hP z4 e_z4
  refine lv_aload_n hx hb d_M_left_88 rfl (lv_at hl 2 rfl) ?_
  refine ygf_31_6 hx hb hown hE hW (lk_M_23 hE) d_M_left_89 ?_
  refine lv_iload hx hb d_M_left_92 (lv_at hl 6 rfl) ?_
  refine lv_bipush (v := 8) hx hb d_M_left_94 (by decide) ?_
  refine ys_36 hx hb hE hW hP.1 d_M_left_96 (fun z5 H locs e_z5 hW => ?_)
  have hP := hP.2
  have hP := hP z5 e_z5
  refine lv_aload_n hx hb d_M_left_97 rfl (lv_at hl 2 rfl) ?_
  refine lv_iconst (v := -1) hx hb d_M_left_98 (by decide) ?_
  refine yc_v (yV (As := [.int (-1 : Int32)]) (rest := []) E (c_M_work _ _ _ hP) (cw_M_151 hE) (yrv_31 hE hW) (by decide) hW hl.1 rfl rfl rfl d_M_left_99) hW (fun z6 H locs hP hW => ?_)
  refine lv_aload_n hx hb d_M_left_102 rfl (lv_at hl 2 rfl) ?_
  refine ygf_31_12 hx hb hown hE hW (lk_M_123 hE) d_M_left_103 ?_
  refine lv_if_eq (tgt := 117) hx hb d_M_left_106 rfl (fun hc => ?_) (fun hc => ?_)
  · have hP := hP.1 hc
    refine lv_aload_n hx hb d_M_left_117 rfl (lv_at hl 2 rfl) ?_
    refine ygf_31_16 hx hb hown hE hW (lk_M_43 hE) d_M_left_118 ?_
    refine lv_iconst (v := 0) hx hb d_M_left_121 (by decide) ?_
    refine ya_41 hx hb hE hW hP.1 d_M_left_122 ?_
    have hP := hP.2
    refine lv_lconst (v := 0) hx hb d_M_left_123 (by decide) ?_
    refine W.lcmp hx hb d_M_left_124 ?_
    refine lv_if_le (tgt := 167) hx hb d_M_left_125 rfl (fun hc => ?_) (fun hc => ?_)
    · have hP := hP.1 (lgc_let hc)
      obtain ⟨x7, e_x7⟩ : ∃ z : Int32, z = v4 + 1 := ⟨_, rfl⟩
      have hP := hP x7 e_x7
      refine lv_iinc (k := 6) (lv' := [(4, .int x7), (6, .int x3), (5, .int x2), (0, .ref (ha G 31)), (1, .int v1), (2, .int v2), (3, .int v3)]) hx hb d_M_left_167 hl rfl (ii_p1 e_x7) (by decide) rfl (fun ls hl => ?_)
      refine lv_goto (tgt := 7) hx hb d_M_left_170 rfl ?_
      exact hK7 _ _ _ _ _ _ _ _ hP (lv_sub hl [3, 4, 5, 6, 0] rfl) hW
    · have hP := hP.2 (lgc_lef hc)
      refine lv_aload_n hx hb d_M_left_128 rfl (lv_at hl 2 rfl) ?_
      refine ygf_31_5 hx hb hown hE hW (lk_M_20 hE) d_M_left_129 ?_
      refine lv_iload hx hb d_M_left_132 (lv_at hl 6 rfl) ?_
      refine lv_iload hx hb d_M_left_134 (lv_at hl 1 rfl) ?_
      refine ys_35 hx hb hE hW hP.1 d_M_left_136 (fun z8 H locs e_z8 hW => ?_)
      have hP := hP.2
      have hP := hP z8 e_z8
      refine lv_aload_n hx hb d_M_left_137 rfl (lv_at hl 2 rfl) ?_
      refine ygf_31_6 hx hb hown hE hW (lk_M_23 hE) d_M_left_138 ?_
      refine lv_iload hx hb d_M_left_141 (lv_at hl 6 rfl) ?_
      refine lv_iload hx hb d_M_left_143 (lv_at hl 0 rfl) ?_
      refine ys_36 hx hb hE hW hP.1 d_M_left_145 (fun z9 H locs e_z9 hW => ?_)
      have hP := hP.2
      have hP := hP z9 e_z9
      refine lv_iload_n hx hb d_M_left_146 rfl (lv_at hl 5 rfl) ?_
      refine lv_iload_n hx hb d_M_left_147 rfl (lv_at hl 3 rfl) ?_
      refine lv_icmp_ne (tgt := 164) hx hb d_M_left_148 rfl (fun hc => ?_) (fun hc => ?_)
      · have hP := hP.1 hc
        exact wJ_M_left_164 E hK7 _ _ _ _ _ _ _ _ hP (lv_sub hl [2, 3, 4, 5, 6] rfl) hW
      · have hP := hP.2 hc
        refine lv_bipush (v := 10) hx hb d_M_left_151 (by decide) ?_
        refine lv_iload hx hb d_M_left_153 (lv_at hl 6 rfl) ?_
        refine lv_iconst (v := 4) hx hb d_M_left_155 (by decide) ?_
        refine lv_idiv hx hb d_M_left_156 (by decide) ?_
        refine lv_imul hx hb d_M_left_157 ?_
        refine lv_iload hx hb d_M_left_158 (lv_at hl 6 rfl) ?_
        refine lv_iconst (v := 4) hx hb d_M_left_160 (by decide) ?_
        refine lv_irem hx hb d_M_left_161 (by decide) ?_
        refine lv_iadd hx hb d_M_left_162 ?_
        refine lv_topi (fun x12 e_x12 => ?_)
        have hP := hP x12 e_x12
        refine lv_istore_n (lv' := [(2, .int x12), (6, .int x3), (5, .int x2), (0, .ref (ha G 31)), (1, .int v1), (3, .int v3), (4, .int v4)]) hx hb d_M_left_163 rfl hl (by decide) rfl (fun ls hl => ?_)
        exact wJ_M_left_164 E hK7 _ _ _ _ _ _ _ _ hP (lv_sub hl [3, 4, 0, 5, 6] rfl) hW
  · have hP := hP.2 hc
    refine lv_aload_n hx hb d_M_left_109 rfl (lv_at hl 2 rfl) ?_
    refine lv_iconst (v := 2) hx hb d_M_left_110 (by decide) ?_
    refine ypf_31_0 hx hb hown hE hW (lk_M_70 hE) d_M_left_111 (fun z13 H locs e_z13 hW => ?_)
    have hP := hP z13 e_z13
    refine lv_goto (tgt := 167) hx hb d_M_left_114 rfl ?_
    obtain ⟨x14, e_x14⟩ : ∃ z : Int32, z = v4 + 1 := ⟨_, rfl⟩
    have hP := hP x14 e_x14
    refine lv_iinc (k := 6) (lv' := [(4, .int x14), (6, .int x3), (5, .int x2), (0, .ref (ha G 31)), (1, .int v1), (2, .int v2), (3, .int v3)]) hx hb d_M_left_167 hl rfl (ii_p1 e_x14) (by decide) rfl (fun ls hl => ?_)
    refine lv_goto (tgt := 7) hx hb d_M_left_170 rfl ?_
    exact hK7 _ _ _ _ _ _ _ _ hP (lv_sub hl [3, 4, 5, 6, 0] rfl) hW
set_option maxHeartbeats 4000000 in
set_option maxRecDepth 100000 in
theorem wL_M_left_7 {Q : Int32 → St → Prop} (E : En p l s m meth c args cc_M_left 7 R_M (some .int) G) :
    ∀ (n : Nat) (v1 : Int32) (v2 : Int32) (v3 : Int32) (v4 : Int32) (z0 : St) (ls : Array Slot) (H : Heap) (locs : List Loc), L_M_left_7 Q n v1 v2 v3 v4 z0 → lv_has ls 7 [(0, .ref (ha G 31)), (1, .int v1), (2, .int v2), (3, .int v3), (4, .int v4)] → Wd G z0 s.heap H locs → W p l e rm_M_left s m args below meth c H locs 0 0 (MQ below (QiR Q G) args s 0 0 (fr G)) (F0 m 7 ls []) := by
  obtain ⟨hx, hb, hml, hown, hr, hlk, hex, hE⟩ := id E
  intro n
  induction n with
  | zero => exact fun _ _ _ _ _ _ _ _ hP _ _ => hP.elim
  | succ n ih =>
    intro v1 v2 v3 v4 z0 ls H locs hP hl hW
    refine lv_iload hx hb d_M_left_7 (lv_at hl 4 rfl) ?_
    refine lv_bipush (v := 12) hx hb d_M_left_9 (by decide) ?_
    refine lv_icmp_ge (tgt := 173) hx hb d_M_left_11 rfl (fun hc => ?_) (fun hc => ?_)
    · have hP := hP.1 hc
      refine lv_iload_n hx hb d_M_left_173 rfl (lv_at hl 2 rfl) ?_
      exact yr_i hx hb hr hlk hW hP d_M_left_174
    · have hP := hP.2 hc
      refine lv_aload_n hx hb d_M_left_14 rfl (lv_at hl 0 rfl) ?_
      refine ygf_31_0 hx hb hown hE hW (lk_M_70 hE) d_M_left_15 ?_
      refine lv_if_ne (tgt := 173) hx hb d_M_left_18 rfl (fun hc => ?_) (fun hc => ?_)
      · have hP := hP.1 hc
        refine lv_iload_n hx hb d_M_left_173 rfl (lv_at hl 2 rfl) ?_
        exact yr_i hx hb hr hlk hW hP d_M_left_174
      · have hP := hP.2 hc
        refine lv_iload hx hb d_M_left_21 (lv_at hl 4 rfl) ?_
        refine lv_iconst (v := 4) hx hb d_M_left_23 (by decide) ?_
        refine lv_irem hx hb d_M_left_24 (by decide) ?_
        refine lv_aload_n hx hb d_M_left_25 rfl (lv_at hl 0 rfl) ?_
        refine ygf_31_4 hx hb hown hE hW (lk_M_17 hE) d_M_left_26 ?_
        refine lv_iload hx hb d_M_left_29 (lv_at hl 4 rfl) ?_
        refine lv_iconst (v := 4) hx hb d_M_left_31 (by decide) ?_
        refine lv_idiv hx hb d_M_left_32 (by decide) ?_
        refine ya_34 hx hb hE hW hP.1 d_M_left_33 ?_
        have hP := hP.2
        refine lv_icmp_ge (tgt := 167) hx hb d_M_left_34 rfl (fun hc => ?_) (fun hc => ?_)
        · have hP := hP.1 hc
          obtain ⟨x1, e_x1⟩ : ∃ z : Int32, z = v4 + 1 := ⟨_, rfl⟩
          have hP := hP x1 e_x1
          refine lv_iinc (k := 4) (lv' := [(4, .int x1), (0, .ref (ha G 31)), (1, .int v1), (2, .int v2), (3, .int v3)]) hx hb d_M_left_167 hl rfl (ii_p1 e_x1) (by decide) rfl (fun ls hl => ?_)
          refine lv_goto (tgt := 7) hx hb d_M_left_170 rfl ?_
          exact ih _ _ _ _ _ _ _ _ hP (lv_sub hl [1, 2, 3, 4, 0] rfl) hW
        · have hP := hP.2 hc
          refine lv_aload_n hx hb d_M_left_37 rfl (lv_at hl 0 rfl) ?_
          refine ygf_31_5 hx hb hown hE hW (lk_M_20 hE) d_M_left_38 ?_
          refine lv_iload hx hb d_M_left_41 (lv_at hl 4 rfl) ?_
          refine ya_35 hx hb hE hW hP.1 d_M_left_43 ?_
          have hP := hP.2
          refine lv_if_ne (tgt := 62) hx hb d_M_left_44 rfl (fun hc => ?_) (fun hc => ?_)
          · have hP := hP.1 hc
            exact wJ_M_left_62 E ih _ _ _ _ _ _ _ _ hP hl hW
          · have hP := hP.2 hc
            refine lv_aload_n hx hb d_M_left_47 rfl (lv_at hl 0 rfl) ?_
            refine ygf_31_6 hx hb hown hE hW (lk_M_23 hE) d_M_left_48 ?_
            refine lv_iload hx hb d_M_left_51 (lv_at hl 4 rfl) ?_
            refine ya_36 hx hb hE hW hP.1 d_M_left_53 ?_
            have hP := hP.2
            refine lv_bipush (v := 8) hx hb d_M_left_54 (by decide) ?_
            refine lv_icmp_ne (tgt := 62) hx hb d_M_left_56 rfl (fun hc => ?_) (fun hc => ?_)
            · have hP := hP.1 hc
              exact wJ_M_left_62 E ih _ _ _ _ _ _ _ _ hP hl hW
            · have hP := hP.2 hc
              refine lv_goto (tgt := 167) hx hb d_M_left_59 rfl ?_
              obtain ⟨x15, e_x15⟩ : ∃ z : Int32, z = v4 + 1 := ⟨_, rfl⟩
              have hP := hP x15 e_x15
              refine lv_iinc (k := 4) (lv' := [(4, .int x15), (0, .ref (ha G 31)), (1, .int v1), (2, .int v2), (3, .int v3)]) hx hb d_M_left_167 hl rfl (ii_p1 e_x15) (by decide) rfl (fun ls hl => ?_)
              refine lv_goto (tgt := 7) hx hb d_M_left_170 rfl ?_
              exact ih _ _ _ _ _ _ _ _ hP (lv_sub hl [1, 2, 3, 4, 0] rfl) hW
set_option maxHeartbeats 4000000 in
set_option maxRecDepth 100000 in
theorem c_M_left {l : Launch} {G : GG} (a1 : Int32) (z0 : St) (Q : Int32 → St → Prop) (hP : P_M_left a1 z0 Q) : Cti l y_M_left cc_M_left 7 (some .int) rm_M_left G [.ref (ha G 31), .int a1] z0 Q := by
  refine Cti.op (own := R_M) (by decide) rfl (Nat.le_of_ble_eq_true rfl) (fun p e s m args below meth c ls E hl hW => ?_)
  obtain ⟨hx, hb, hml, hown, hr, hlk, hex, hE⟩ := id E
  have hl : lv_has ls 7 [(0, .ref (ha G 31)), (1, .int a1)] := hl
  refine lv_iconst (v := -1) hx hb d_M_left_0 (by decide) ?_
  refine lv_istore_n (lv' := [(2, .int (-1 : Int32)), (0, .ref (ha G 31)), (1, .int a1)]) hx hb d_M_left_1 rfl hl (by decide) rfl (fun ls hl => ?_)
  refine lv_iconst (v := 0) hx hb d_M_left_2 (by decide) ?_
  refine lv_istore_n (lv' := [(3, .int (0 : Int32)), (2, .int (-1 : Int32)), (0, .ref (ha G 31)), (1, .int a1)]) hx hb d_M_left_3 rfl hl (by decide) rfl (fun ls hl => ?_)
  refine lv_iconst (v := 0) hx hb d_M_left_4 (by decide) ?_
  refine lv_istore (lv' := [(4, .int (0 : Int32)), (3, .int (0 : Int32)), (2, .int (-1 : Int32)), (0, .ref (ha G 31)), (1, .int a1)]) hx hb d_M_left_5 hl (by decide) rfl (fun ls hl => ?_)
  obtain ⟨n2, hP⟩ := hP
  refine wL_M_left_7 E n2 _ _ _ _ _ _ _ _ hP (lv_sub hl [3, 4, 2, 1, 0] rfl) hW
end Code
