/-! The tally's constructor: the rows, then Pascal's triangle by two loops. -/
def pas : Nat → Nat → Nat
  | _, 0 => 1
  | 0, _ + 1 => 0
  | n + 1, k + 1 => pas n k + pas n (k + 1)
def Pas (f : Nat → Int32) : Prop := ∀ n k : Nat, n ≤ 40 → k ≤ 8 → f (9 * n + k) = nI (pas n k)
theorem pas_0 (n : Nat) : pas n 0 = 1 := by cases n <;> rfl
theorem pas_big : ∀ (n k : Nat), n < k → pas n k = 0
  | 0, 0, h => absurd h (by omega)
  | 0, _ + 1, _ => rfl
  | _ + 1, 0, h => absurd h (by omega)
  | n + 1, k + 1, h => by show pas n k + pas n (k + 1) = 0; rw [pas_big n k (by omega), pas_big n (k + 1) (by omega)]
abbrev tl (G : GG) (h0 p1 : Nat) (q : Nat → Nat) (f : Nat → Int32) : va_W := [(h0, .inr (3, [.ref p1, .ref (q 0), .ref (q 1), .ref (q 2), .ref (q 3), .ref (q 4), .ref (q 5), .ref (q 6), .ref (q 7), .ref (q 8), .int (0 : Int32), .int (0 : Int32), .int (0 : Int32)])), ((q 0), .inl (G.2.1 1, 1001, .inr (.inl (fun _ => 0)))), ((q 1), .inl (G.2.1 0, 1001, .inl (fun _ => 0))), ((q 2), .inl (G.2.1 0, 1001, .inl (fun _ => 0))), ((q 3), .inl (G.2.1 0, 1001, .inl (fun _ => 0))), ((q 4), .inl (G.2.1 1, 1001, .inr (.inl (fun _ => 0)))), ((q 5), .inl (G.2.1 1, 1001, .inr (.inl (fun _ => 0)))), ((q 6), .inl (G.2.1 0, 2048, .inl (fun _ => 0))), ((q 7), .inl (G.2.1 0, 17, .inl (fun _ => 0))), ((q 8), .inl (G.2.1 0, 369, .inl f))]
section Tally33
variable {p : Program} {l : Launch} {e : Env} {s : State} {m : MethodId} {args : Array Value} {below : List Frame} {meth : Method} {c : Code} {G : GG}
set_option maxHeartbeats 4000000 in
theorem ti_inner {ws : va_W} {h0 p1 : Nat} {q : Nat → Nat} (E : En p l s m meth c args cc_T_init 4 R_T none G) {n : Nat} (hn : n ≤ 40)
    (hK : ∀ (f : Nat → Int32) (ls : Array Slot) (H : Heap) (locs : List Loc), (∀ n' k, n' < n + 1 → k ≤ 8 → f (9 * n' + k) = nI (pas n' k)) → (∀ j, 9 * (n + 1) ≤ j → f j = 0) → lv_has ls 4 [(0, .ref h0), (2, .int (nI n))] → Wx G (ws ++ tl G h0 p1 q f) s.heap H locs → W p l e rm_T_init s m args below meth c H locs 9 8440 (MQ below (va_Qv (fun u : (Nat → Nat) × (Nat → Nat → Int32) => Pas (u.2 0)) (fun u t => OX G (ws ++ tl G h0 p1 u.1 (u.2 0)) t) (fr G)) args s 9 8440 (fr G)) (F0 m 180 ls [])) :
    ∀ (d k : Nat) (f : Nat → Int32) (ls : Array Slot) (H : Heap) (locs : List Loc), k + d = 9 → 1 ≤ k → k ≤ n + 1 → (∀ n' k, n' < n → k ≤ 8 → f (9 * n' + k) = nI (pas n' k)) → (∀ k', k' < k → f (9 * n + k') = nI (pas n k')) → (∀ j, 9 * n + k ≤ j → f j = 0) → lv_has ls 4 [(0, .ref h0), (2, .int (nI n)), (3, .int (nI k))] → Wx G (ws ++ tl G h0 p1 q f) s.heap H locs → W p l e rm_T_init s m args below meth c H locs 9 8440 (MQ below (va_Qv (fun u : (Nat → Nat) × (Nat → Nat → Int32) => Pas (u.2 0)) (fun u t => OX G (ws ++ tl G h0 p1 u.1 (u.2 0)) t) (fr G)) args s 9 8440 (fr G)) (F0 m 124 ls []) := by
  obtain ⟨hx, hb, hml, hown, hr, hlk, hex, hE⟩ := id E
  have hmin : mminI (nI n) 8 = nI (min n 8) := by
    unfold mminI
    by_cases h : n ≤ 8
    · rw [if_neg (by rw [show (8 : Int32) = nI 8 from rfl]; exact nI_nlt h (by decide)), Nat.min_eq_left h]
    · rw [if_pos (by rw [show (8 : Int32) = nI 8 from rfl]; exact nI_lt (by omega) (by omega)), Nat.min_eq_right (by omega)]; rfl
  intro d
  induction d with
  | zero =>
    intro k f ls H locs hk h1 hkn hf1 hf2 hf3 hl hW
    refine lv_iload_n hx hb d_T_init_124 rfl (lv_at hl 2 rfl) ?_
    refine lv_iload_n hx hb d_T_init_125 rfl (lv_at hl 1 rfl) ?_
    refine lv_bipush (v := 8) hx hb d_T_init_126 (by decide) ?_
    refine va_mmin (rest := [.int (nI k)]) hx hb (hml.trans hl.1.symm) hown (lk_T_55 hE) (ms_minI hE) (ms_ini hE) (mc_minI hE) (by decide) (Nat.le_of_ble_eq_true rfl) (by decide) (by decide) d_T_init_128 ?_
    refine W.eq (g2 := F0 m 131 ls [.int (nI (min n 8)), .int (nI k)]) (by rw [← hmin]; rfl) ?_
    refine lv_icmp_gt (tgt := 180) hx hb d_T_init_131 rfl (fun hc => ?_) (fun hc => ?_)
    · refine hK f ls H locs (fun n' k' h h8 => ?_) (fun j hj => hf3 j (by omega)) (lv_sub hl [0, 1] rfl) hW
      by_cases hnn : n' < n
      · exact hf1 n' k' hnn h8
      · have e1 : n' = n := by omega
        subst e1
        exact hf2 k' (by omega)
    · exact absurd (nI_lt (by omega) (by omega)) hc
  | succ d ih =>
    intro k f ls H locs hk h1 hkn hf1 hf2 hf3 hl hW
    refine lv_iload_n hx hb d_T_init_124 rfl (lv_at hl 2 rfl) ?_
    refine lv_iload_n hx hb d_T_init_125 rfl (lv_at hl 1 rfl) ?_
    refine lv_bipush (v := 8) hx hb d_T_init_126 (by decide) ?_
    refine va_mmin (rest := [.int (nI k)]) hx hb (hml.trans hl.1.symm) hown (lk_T_55 hE) (ms_minI hE) (ms_ini hE) (mc_minI hE) (by decide) (Nat.le_of_ble_eq_true rfl) (by decide) (by decide) d_T_init_128 ?_
    refine W.eq (g2 := F0 m 131 ls [.int (nI (min n 8)), .int (nI k)]) (by rw [← hmin]; rfl) ?_
    refine lv_icmp_gt (tgt := 180) hx hb d_T_init_131 rfl (fun hc => ?_) (fun hc => ?_)
    · have hkk : min n 8 < k := Nat.not_le.mp (fun h => nI_nlt h (by omega) hc)
      refine hK f ls H locs (fun n' k' h h8 => ?_) (fun j hj => hf3 j (by omega)) (lv_sub hl [0, 1] rfl) hW
      by_cases hnn : n' < n
      · exact hf1 n' k' hnn h8
      · have e1 : n' = n := by omega
        subst e1
        by_cases hk2 : k' < k
        · exact hf2 k' hk2
        · rw [hf3 _ (by omega), pas_big n' k' (by omega)]; rfl
    · have hkk : k ≤ min n 8 := Nat.not_lt.mp (fun h => hc (nI_lt h (by omega)))
      obtain ⟨n1, rfl⟩ : ∃ n1, n = n1 + 1 := ⟨n - 1, by omega⟩
      obtain ⟨k1, rfl⟩ : ∃ k1, k = k1 + 1 := ⟨k - 1, by omega⟩
      refine lv_aload_n hx hb d_T_init_134 rfl (lv_at hl 0 rfl) ?_
      refine xget (T := F_T) (k := 9) 0 hx hb hown hE hW ly_T rfl rfl (by decide) (lk_T_37 hE) rfl d_T_init_135 ?_
      refine lv_iload_n hx hb d_T_init_138 rfl (lv_at hl 1 rfl) ?_
      refine lv_bipush (v := 9) hx hb d_T_init_139 (by decide) ?_
      refine lv_imul hx hb d_T_init_141 ?_
      refine lv_iload_n hx hb d_T_init_142 rfl (lv_at hl 2 rfl) ?_
      refine lv_iadd hx hb d_T_init_143 ?_
      refine lv_topi (fun x ex => ?_)
      obtain rfl : x = nI (9 * (n1 + 1) + (k1 + 1)) := by rw [ex, show (9 : Int32) = nI 9 from rfl, pk_mul, nI_add, Nat.mul_comm]
      refine lv_aload_n hx hb d_T_init_144 rfl (lv_at hl 0 rfl) ?_
      refine xget (T := F_T) (k := 9) 0 hx hb hown hE hW ly_T rfl rfl (by decide) (lk_T_37 hE) rfl d_T_init_145 ?_
      refine lv_iload_n hx hb d_T_init_148 rfl (lv_at hl 1 rfl) ?_
      refine lv_iconst (v := 1) hx hb d_T_init_149 (by decide) ?_
      refine lv_isub hx hb d_T_init_150 ?_
      refine lv_bipush (v := 9) hx hb d_T_init_151 (by decide) ?_
      refine lv_imul hx hb d_T_init_153 ?_
      refine lv_iload_n hx hb d_T_init_154 rfl (lv_at hl 2 rfl) ?_
      refine lv_iadd hx hb d_T_init_155 ?_
      refine lv_iconst (v := 1) hx hb d_T_init_156 (by decide) ?_
      refine lv_isub hx hb d_T_init_157 ?_
      refine lv_topi (fun x ex => ?_)
      obtain rfl : x = nI (9 * n1 + k1) := by rw [ex, nI_pred, show (9 : Int32) = nI 9 from rfl, pk_mul, nI_add, ← Nat.add_assoc, nI_pred, Nat.mul_comm]
      refine xaldI 9 hx hb hE hW rfl (vp_in_nI (by omega) (by decide)) d_T_init_158 ?_
      rw [nI_clamp (show 9 * n1 + k1 < 2 ^ 31 by omega), hf1 n1 k1 (by omega) (by omega)]
      refine lv_aload_n hx hb d_T_init_159 rfl (lv_at hl 0 rfl) ?_
      refine xget (T := F_T) (k := 9) 0 hx hb hown hE hW ly_T rfl rfl (by decide) (lk_T_37 hE) rfl d_T_init_160 ?_
      refine lv_iload_n hx hb d_T_init_163 rfl (lv_at hl 1 rfl) ?_
      refine lv_iconst (v := 1) hx hb d_T_init_164 (by decide) ?_
      refine lv_isub hx hb d_T_init_165 ?_
      refine lv_bipush (v := 9) hx hb d_T_init_166 (by decide) ?_
      refine lv_imul hx hb d_T_init_168 ?_
      refine lv_iload_n hx hb d_T_init_169 rfl (lv_at hl 2 rfl) ?_
      refine lv_iadd hx hb d_T_init_170 ?_
      refine lv_topi (fun x ex => ?_)
      obtain rfl : x = nI (9 * n1 + (k1 + 1)) := by rw [ex, nI_pred, show (9 : Int32) = nI 9 from rfl, pk_mul, nI_add, Nat.mul_comm]
      refine xaldI 9 hx hb hE hW rfl (vp_in_nI (by omega) (by decide)) d_T_init_171 ?_
      rw [nI_clamp (show 9 * n1 + (k1 + 1) < 2 ^ 31 by omega), hf1 n1 (k1 + 1) (by omega) (by omega)]
      refine lv_iadd hx hb d_T_init_172 ?_
      rw [nI_add]
      refine xastI 9 hx hb hE hW rfl (vp_in_nI (by omega) (by decide)) d_T_init_173 (fun H locs hW => ?_)
      have hW : Wx G (ws ++ tl G h0 p1 q (upd f (9 * (n1 + 1) + (k1 + 1)) (nI (pas (n1 + 1) (k1 + 1))))) s.heap H locs := by
        rw [nI_clamp (show 9 * (n1 + 1) + (k1 + 1) < 2 ^ 31 by omega)] at hW; exact hW
      refine lv_iinc (k := 2) (v := nI (k1 + 1 + 1)) (lv' := [(3, .int (nI (k1 + 1 + 1))), (0, .ref h0), (2, .int (nI (n1 + 1)))]) hx hb d_T_init_174 hl rfl (ii_p1 (nI_succ (k1 + 1))) (by decide) rfl (fun ls hl => ?_)
      refine lv_goto (tgt := 124) hx hb d_T_init_177 rfl ?_
      refine ih (k1 + 1 + 1) _ ls H locs (by omega) (by omega) (by omega) (fun n' k' h h8 => ?_) (fun k' h => ?_) (fun j hj => ?_) (lv_sub hl [1, 2, 0] rfl) hW
      · rw [pk_un (by omega)]; exact hf1 n' k' h h8
      · by_cases hkk2 : k' = k1 + 1
        · subst hkk2; exact pk_us
        · rw [pk_un (by omega)]; exact hf2 k' (by omega)
      · rw [pk_un (by omega)]; exact hf3 j (by omega)
set_option maxHeartbeats 4000000 in
theorem ti_outer {ws : va_W} {h0 p1 : Nat} {q : Nat → Nat} (E : En p l s m meth c args cc_T_init 4 R_T none G) :
    ∀ (d n : Nat) (f : Nat → Int32) (ls : Array Slot) (H : Heap) (locs : List Loc), n + d = 41 → (∀ n' k, n' < n → k ≤ 8 → f (9 * n' + k) = nI (pas n' k)) → (∀ j, 9 * n ≤ j → f j = 0) → lv_has ls 4 [(0, .ref h0), (2, .int (nI n))] → Wx G (ws ++ tl G h0 p1 q f) s.heap H locs → W p l e rm_T_init s m args below meth c H locs 9 8440 (MQ below (va_Qv (fun u : (Nat → Nat) × (Nat → Nat → Int32) => Pas (u.2 0)) (fun u t => OX G (ws ++ tl G h0 p1 u.1 (u.2 0)) t) (fr G)) args s 9 8440 (fr G)) (F0 m 106 ls []) := by
  obtain ⟨hx, hb, hml, hown, hr, hlk, hex, hE⟩ := id E
  intro d
  induction d with
  | zero =>
    intro n f ls H locs hn hf1 hf2 hl hW
    refine lv_iload_n hx hb d_T_init_106 rfl (lv_at hl 1 rfl) ?_
    refine lv_bipush (v := 40) hx hb d_T_init_107 (by decide) ?_
    refine lv_icmp_gt (tgt := 186) hx hb d_T_init_109 rfl (fun hc => ?_) (fun hc => ?_)
    · exact xret (q, fun _ => f) hx hb hr hlk hW (fun n' k h1 h2 => hf1 n' k (by omega) h2) rfl rfl rfl d_T_init_186
    · exact absurd (by rw [show (40 : Int32) = nI 40 from rfl]; exact nI_lt (by omega) (by omega)) hc
  | succ d ih =>
    intro n f ls H locs hn hf1 hf2 hl hW
    refine lv_iload_n hx hb d_T_init_106 rfl (lv_at hl 1 rfl) ?_
    refine lv_bipush (v := 40) hx hb d_T_init_107 (by decide) ?_
    refine lv_icmp_gt (tgt := 186) hx hb d_T_init_109 rfl (fun hc => ?_) (fun hc => ?_)
    · exact absurd hc (by rw [show (40 : Int32) = nI 40 from rfl]; exact nI_nlt (by omega) (by decide))
    · refine lv_aload_n hx hb d_T_init_112 rfl (lv_at hl 0 rfl) ?_
      refine xget (T := F_T) (k := 9) 0 hx hb hown hE hW ly_T rfl rfl (by decide) (lk_T_37 hE) rfl d_T_init_113 ?_
      refine lv_iload_n hx hb d_T_init_116 rfl (lv_at hl 1 rfl) ?_
      refine lv_bipush (v := 9) hx hb d_T_init_117 (by decide) ?_
      refine lv_imul hx hb d_T_init_119 ?_
      refine lv_topi (fun x ex => ?_)
      obtain rfl : x = nI (9 * n) := by rw [ex, show (9 : Int32) = nI 9 from rfl, pk_mul, Nat.mul_comm]
      refine lv_iconst (v := 1) hx hb d_T_init_120 (by decide) ?_
      refine xastI 9 hx hb hE hW rfl (vp_in_nI (by omega) (by decide)) d_T_init_121 (fun H locs hW => ?_)
      have hW : Wx G (ws ++ tl G h0 p1 q (upd f (9 * n) 1)) s.heap H locs := by
        rw [nI_clamp (show 9 * n < 2 ^ 31 by omega)] at hW; exact hW
      refine lv_iconst (v := 1) hx hb d_T_init_122 (by decide) ?_
      refine lv_istore_n (lv' := [(3, .int 1), (0, .ref h0), (2, .int (nI n))]) hx hb d_T_init_123 rfl hl (by decide) rfl (fun ls hl => ?_)
      refine ti_inner E (n := n) (by omega) (fun f2 ls H locs g1 g2 hl hW => ?_) 8 1 _ ls H locs (by omega) (by omega) (by omega) (fun n' k' h h8 => ?_) (fun k' h => ?_) (fun j hj => ?_) (lv_sub hl [1, 2, 0] rfl) hW
      · refine lv_iinc (k := 1) (v := nI (n + 1)) (lv' := [(2, .int (nI (n + 1))), (0, .ref h0)]) hx hb d_T_init_180 hl rfl (ii_p1 (nI_succ n)) (by decide) rfl (fun ls hl => ?_)
        refine lv_goto (tgt := 106) hx hb d_T_init_183 rfl ?_
        exact ih (n + 1) f2 ls H locs (by omega) g1 g2 (lv_sub hl [1, 0] rfl) hW
      · rw [pk_un (by omega)]; exact hf1 n' k' h h8
      · obtain rfl : k' = 0 := by omega
        rw [Nat.add_zero, pk_us, pas_0]; rfl
      · rw [pk_un (by omega)]; exact hf2 j (by omega)
end Tally33
set_option maxHeartbeats 4000000 in
set_option maxRecDepth 100000 in
theorem k_T_init {l : Launch} {G : GG} (ws : va_W) (h0 p1 : Nat) : Ctk l y_T_init cc_T_init 4 rm_T_init G [.ref h0, .ref p1] (ws ++ [(h0, .inr (3, [.null, .null, .null, .null, .null, .null, .null, .null, .null, .null, .int 0, .int 0, .int 0]))]) (fun u : (Nat → Nat) × (Nat → Nat → Int32) => Pas (u.2 0)) (fun u => ws ++ [(h0, .inr (3, [.ref p1, .ref (u.1 0), .ref (u.1 1), .ref (u.1 2), .ref (u.1 3), .ref (u.1 4), .ref (u.1 5), .ref (u.1 6), .ref (u.1 7), .ref (u.1 8), .int (0 : Int32), .int (0 : Int32), .int (0 : Int32)])), ((u.1 0), .inl (G.2.1 1, 1001, .inr (.inl (fun _ => 0)))), ((u.1 1), .inl (G.2.1 0, 1001, .inl (fun _ => 0))), ((u.1 2), .inl (G.2.1 0, 1001, .inl (fun _ => 0))), ((u.1 3), .inl (G.2.1 0, 1001, .inl (fun _ => 0))), ((u.1 4), .inl (G.2.1 1, 1001, .inr (.inl (fun _ => 0)))), ((u.1 5), .inl (G.2.1 1, 1001, .inr (.inl (fun _ => 0)))), ((u.1 6), .inl (G.2.1 0, 2048, .inl (fun _ => 0))), ((u.1 7), .inl (G.2.1 0, 17, .inl (fun _ => 0))), ((u.1 8), .inl (G.2.1 0, 369, .inl (u.2 0)))]) 9 8440 := by
  refine Ctk.op (own := R_T) (by decide) rfl (Nat.le_of_ble_eq_true rfl) (fun p e s m args below meth c ls E hnm hl hW => ?_)
  have hnm : meth.name = "<init>" := hnm
  obtain ⟨hx, hb, hml, hown, hr, hlk, hex, hE⟩ := id E
  have hl : lv_has ls 4 [(0, .ref h0), (1, .ref p1)] := hl
  refine lv_aload_n hx hb d_T_init_0 rfl (lv_at hl 0 rfl) ?_
  refine W.objInit hx hb hown (oi_T hE) (oi_im hE) (oi_code hE) rfl (by rw [hml]; exact hl.1) rfl d_T_init_1 (Nat.le_of_ble_eq_true rfl) (Nat.le_of_ble_eq_true rfl) ?_
  refine W.eq (g2 := F0 m 4 ls []) rfl ?_
  refine lv_aload_n hx hb d_T_init_4 rfl (lv_at hl 0 rfl) ?_
  refine lv_sipush (v := 1001) hx hb d_T_init_5 (by decide) ?_
  refine xnewa (atype := .long) (ty := .long) (k := 1001) (N' := 1001) (t0 := 1) (cB := G.2.1 1) (a0 := (1001, .inr (.inl (fun _ => 0)))) hx hb hE hW (aw_J hE) rfl (Or.inr (Or.inl rfl)) rfl (fun _ => rfl) (by decide) (by decide) (by decide) (by decide) d_T_init_8 (fun q1 H hW => ?_)
  have hW : Wx G (ws ++ [(h0, .inr (3, [.null, .null, .null, .null, .null, .null, .null, .null, .null, .null, .int 0, .int 0, .int 0])), (q1, .inl (G.2.1 1, 1001, .inr (.inl (fun _ => 0))))]) s.heap _ _ := hW
  refine xputF (T := F_T) (k := 1) (ty := .array .long) 0 hx hb hown hE hW ft_T ft_T_ok n_T ly_T rfl rfl (by decide) (lk_T_11 hE) rfl hnm rfl (by decide +kernel) rfl rfl (Nat.le_of_ble_eq_true rfl) d_T_init_10 (fun H locs hW => ?_)
  have hW : Wx G (ws ++ [(h0, .inr (3, [.null, .ref q1, .null, .null, .null, .null, .null, .null, .null, .null, .int 0, .int 0, .int 0])), (q1, .inl (G.2.1 1, 1001, .inr (.inl (fun _ => 0))))]) s.heap _ _ := hW
  refine lv_aload_n hx hb d_T_init_13 rfl (lv_at hl 0 rfl) ?_
  refine lv_sipush (v := 1001) hx hb d_T_init_14 (by decide) ?_
  refine xnewa (atype := .int) (ty := .int) (k := 1001) (N' := 1001) (t0 := 0) (cB := G.2.1 0) (a0 := (1001, .inl (fun _ => 0))) hx hb hE hW (aw_I hE) rfl (Or.inl rfl) rfl (fun _ => rfl) (by decide) (by decide) (by decide) (by decide) d_T_init_17 (fun q2 H hW => ?_)
  have hW : Wx G (ws ++ [(h0, .inr (3, [.null, .ref q1, .null, .null, .null, .null, .null, .null, .null, .null, .int 0, .int 0, .int 0])), (q1, .inl (G.2.1 1, 1001, .inr (.inl (fun _ => 0)))), (q2, .inl (G.2.1 0, 1001, .inl (fun _ => 0)))]) s.heap _ _ := hW
  refine xputF (T := F_T) (k := 2) (ty := .array .int) 0 hx hb hown hE hW ft_T ft_T_ok n_T ly_T rfl rfl (by decide) (lk_T_15 hE) rfl hnm rfl (by decide +kernel) rfl rfl (Nat.le_of_ble_eq_true rfl) d_T_init_19 (fun H locs hW => ?_)
  have hW : Wx G (ws ++ [(h0, .inr (3, [.null, .ref q1, .ref q2, .null, .null, .null, .null, .null, .null, .null, .int 0, .int 0, .int 0])), (q1, .inl (G.2.1 1, 1001, .inr (.inl (fun _ => 0)))), (q2, .inl (G.2.1 0, 1001, .inl (fun _ => 0)))]) s.heap _ _ := hW
  refine lv_aload_n hx hb d_T_init_22 rfl (lv_at hl 0 rfl) ?_
  refine lv_sipush (v := 1001) hx hb d_T_init_23 (by decide) ?_
  refine xnewa (atype := .int) (ty := .int) (k := 1001) (N' := 1001) (t0 := 0) (cB := G.2.1 0) (a0 := (1001, .inl (fun _ => 0))) hx hb hE hW (aw_I hE) rfl (Or.inl rfl) rfl (fun _ => rfl) (by decide) (by decide) (by decide) (by decide) d_T_init_26 (fun q3 H hW => ?_)
  have hW : Wx G (ws ++ [(h0, .inr (3, [.null, .ref q1, .ref q2, .null, .null, .null, .null, .null, .null, .null, .int 0, .int 0, .int 0])), (q1, .inl (G.2.1 1, 1001, .inr (.inl (fun _ => 0)))), (q2, .inl (G.2.1 0, 1001, .inl (fun _ => 0))), (q3, .inl (G.2.1 0, 1001, .inl (fun _ => 0)))]) s.heap _ _ := hW
  refine xputF (T := F_T) (k := 3) (ty := .array .int) 0 hx hb hown hE hW ft_T ft_T_ok n_T ly_T rfl rfl (by decide) (lk_T_19 hE) rfl hnm rfl (by decide +kernel) rfl rfl (Nat.le_of_ble_eq_true rfl) d_T_init_28 (fun H locs hW => ?_)
  have hW : Wx G (ws ++ [(h0, .inr (3, [.null, .ref q1, .ref q2, .ref q3, .null, .null, .null, .null, .null, .null, .int 0, .int 0, .int 0])), (q1, .inl (G.2.1 1, 1001, .inr (.inl (fun _ => 0)))), (q2, .inl (G.2.1 0, 1001, .inl (fun _ => 0))), (q3, .inl (G.2.1 0, 1001, .inl (fun _ => 0)))]) s.heap _ _ := hW
  refine lv_aload_n hx hb d_T_init_31 rfl (lv_at hl 0 rfl) ?_
  refine lv_sipush (v := 1001) hx hb d_T_init_32 (by decide) ?_
  refine xnewa (atype := .int) (ty := .int) (k := 1001) (N' := 1001) (t0 := 0) (cB := G.2.1 0) (a0 := (1001, .inl (fun _ => 0))) hx hb hE hW (aw_I hE) rfl (Or.inl rfl) rfl (fun _ => rfl) (by decide) (by decide) (by decide) (by decide) d_T_init_35 (fun q4 H hW => ?_)
  have hW : Wx G (ws ++ [(h0, .inr (3, [.null, .ref q1, .ref q2, .ref q3, .null, .null, .null, .null, .null, .null, .int 0, .int 0, .int 0])), (q1, .inl (G.2.1 1, 1001, .inr (.inl (fun _ => 0)))), (q2, .inl (G.2.1 0, 1001, .inl (fun _ => 0))), (q3, .inl (G.2.1 0, 1001, .inl (fun _ => 0))), (q4, .inl (G.2.1 0, 1001, .inl (fun _ => 0)))]) s.heap _ _ := hW
  refine xputF (T := F_T) (k := 4) (ty := .array .int) 0 hx hb hown hE hW ft_T ft_T_ok n_T ly_T rfl rfl (by decide) (lk_T_22 hE) rfl hnm rfl (by decide +kernel) rfl rfl (Nat.le_of_ble_eq_true rfl) d_T_init_37 (fun H locs hW => ?_)
  have hW : Wx G (ws ++ [(h0, .inr (3, [.null, .ref q1, .ref q2, .ref q3, .ref q4, .null, .null, .null, .null, .null, .int 0, .int 0, .int 0])), (q1, .inl (G.2.1 1, 1001, .inr (.inl (fun _ => 0)))), (q2, .inl (G.2.1 0, 1001, .inl (fun _ => 0))), (q3, .inl (G.2.1 0, 1001, .inl (fun _ => 0))), (q4, .inl (G.2.1 0, 1001, .inl (fun _ => 0)))]) s.heap _ _ := hW
  refine lv_aload_n hx hb d_T_init_40 rfl (lv_at hl 0 rfl) ?_
  refine lv_sipush (v := 1001) hx hb d_T_init_41 (by decide) ?_
  refine xnewa (atype := .long) (ty := .long) (k := 1001) (N' := 1001) (t0 := 1) (cB := G.2.1 1) (a0 := (1001, .inr (.inl (fun _ => 0)))) hx hb hE hW (aw_J hE) rfl (Or.inr (Or.inl rfl)) rfl (fun _ => rfl) (by decide) (by decide) (by decide) (by decide) d_T_init_44 (fun q5 H hW => ?_)
  have hW : Wx G (ws ++ [(h0, .inr (3, [.null, .ref q1, .ref q2, .ref q3, .ref q4, .null, .null, .null, .null, .null, .int 0, .int 0, .int 0])), (q1, .inl (G.2.1 1, 1001, .inr (.inl (fun _ => 0)))), (q2, .inl (G.2.1 0, 1001, .inl (fun _ => 0))), (q3, .inl (G.2.1 0, 1001, .inl (fun _ => 0))), (q4, .inl (G.2.1 0, 1001, .inl (fun _ => 0))), (q5, .inl (G.2.1 1, 1001, .inr (.inl (fun _ => 0))))]) s.heap _ _ := hW
  refine xputF (T := F_T) (k := 5) (ty := .array .long) 0 hx hb hown hE hW ft_T ft_T_ok n_T ly_T rfl rfl (by decide) (lk_T_25 hE) rfl hnm rfl (by decide +kernel) rfl rfl (Nat.le_of_ble_eq_true rfl) d_T_init_46 (fun H locs hW => ?_)
  have hW : Wx G (ws ++ [(h0, .inr (3, [.null, .ref q1, .ref q2, .ref q3, .ref q4, .ref q5, .null, .null, .null, .null, .int 0, .int 0, .int 0])), (q1, .inl (G.2.1 1, 1001, .inr (.inl (fun _ => 0)))), (q2, .inl (G.2.1 0, 1001, .inl (fun _ => 0))), (q3, .inl (G.2.1 0, 1001, .inl (fun _ => 0))), (q4, .inl (G.2.1 0, 1001, .inl (fun _ => 0))), (q5, .inl (G.2.1 1, 1001, .inr (.inl (fun _ => 0))))]) s.heap _ _ := hW
  refine lv_aload_n hx hb d_T_init_49 rfl (lv_at hl 0 rfl) ?_
  refine lv_sipush (v := 1001) hx hb d_T_init_50 (by decide) ?_
  refine xnewa (atype := .long) (ty := .long) (k := 1001) (N' := 1001) (t0 := 1) (cB := G.2.1 1) (a0 := (1001, .inr (.inl (fun _ => 0)))) hx hb hE hW (aw_J hE) rfl (Or.inr (Or.inl rfl)) rfl (fun _ => rfl) (by decide) (by decide) (by decide) (by decide) d_T_init_53 (fun q6 H hW => ?_)
  have hW : Wx G (ws ++ [(h0, .inr (3, [.null, .ref q1, .ref q2, .ref q3, .ref q4, .ref q5, .null, .null, .null, .null, .int 0, .int 0, .int 0])), (q1, .inl (G.2.1 1, 1001, .inr (.inl (fun _ => 0)))), (q2, .inl (G.2.1 0, 1001, .inl (fun _ => 0))), (q3, .inl (G.2.1 0, 1001, .inl (fun _ => 0))), (q4, .inl (G.2.1 0, 1001, .inl (fun _ => 0))), (q5, .inl (G.2.1 1, 1001, .inr (.inl (fun _ => 0)))), (q6, .inl (G.2.1 1, 1001, .inr (.inl (fun _ => 0))))]) s.heap _ _ := hW
  refine xputF (T := F_T) (k := 6) (ty := .array .long) 0 hx hb hown hE hW ft_T ft_T_ok n_T ly_T rfl rfl (by decide) (lk_T_28 hE) rfl hnm rfl (by decide +kernel) rfl rfl (Nat.le_of_ble_eq_true rfl) d_T_init_55 (fun H locs hW => ?_)
  have hW : Wx G (ws ++ [(h0, .inr (3, [.null, .ref q1, .ref q2, .ref q3, .ref q4, .ref q5, .ref q6, .null, .null, .null, .int 0, .int 0, .int 0])), (q1, .inl (G.2.1 1, 1001, .inr (.inl (fun _ => 0)))), (q2, .inl (G.2.1 0, 1001, .inl (fun _ => 0))), (q3, .inl (G.2.1 0, 1001, .inl (fun _ => 0))), (q4, .inl (G.2.1 0, 1001, .inl (fun _ => 0))), (q5, .inl (G.2.1 1, 1001, .inr (.inl (fun _ => 0)))), (q6, .inl (G.2.1 1, 1001, .inr (.inl (fun _ => 0))))]) s.heap _ _ := hW
  refine lv_aload_n hx hb d_T_init_58 rfl (lv_at hl 0 rfl) ?_
  refine lv_sipush (v := 2048) hx hb d_T_init_59 (by decide) ?_
  refine xnewa (atype := .int) (ty := .int) (k := 2048) (N' := 2048) (t0 := 0) (cB := G.2.1 0) (a0 := (2048, .inl (fun _ => 0))) hx hb hE hW (aw_I hE) rfl (Or.inl rfl) rfl (fun _ => rfl) (by decide) (by decide) (by decide) (by decide) d_T_init_62 (fun q7 H hW => ?_)
  have hW : Wx G (ws ++ [(h0, .inr (3, [.null, .ref q1, .ref q2, .ref q3, .ref q4, .ref q5, .ref q6, .null, .null, .null, .int 0, .int 0, .int 0])), (q1, .inl (G.2.1 1, 1001, .inr (.inl (fun _ => 0)))), (q2, .inl (G.2.1 0, 1001, .inl (fun _ => 0))), (q3, .inl (G.2.1 0, 1001, .inl (fun _ => 0))), (q4, .inl (G.2.1 0, 1001, .inl (fun _ => 0))), (q5, .inl (G.2.1 1, 1001, .inr (.inl (fun _ => 0)))), (q6, .inl (G.2.1 1, 1001, .inr (.inl (fun _ => 0)))), (q7, .inl (G.2.1 0, 2048, .inl (fun _ => 0)))]) s.heap _ _ := hW
  refine xputF (T := F_T) (k := 7) (ty := .array .int) 0 hx hb hown hE hW ft_T ft_T_ok n_T ly_T rfl rfl (by decide) (lk_T_31 hE) rfl hnm rfl (by decide +kernel) rfl rfl (Nat.le_of_ble_eq_true rfl) d_T_init_64 (fun H locs hW => ?_)
  have hW : Wx G (ws ++ [(h0, .inr (3, [.null, .ref q1, .ref q2, .ref q3, .ref q4, .ref q5, .ref q6, .ref q7, .null, .null, .int 0, .int 0, .int 0])), (q1, .inl (G.2.1 1, 1001, .inr (.inl (fun _ => 0)))), (q2, .inl (G.2.1 0, 1001, .inl (fun _ => 0))), (q3, .inl (G.2.1 0, 1001, .inl (fun _ => 0))), (q4, .inl (G.2.1 0, 1001, .inl (fun _ => 0))), (q5, .inl (G.2.1 1, 1001, .inr (.inl (fun _ => 0)))), (q6, .inl (G.2.1 1, 1001, .inr (.inl (fun _ => 0)))), (q7, .inl (G.2.1 0, 2048, .inl (fun _ => 0)))]) s.heap _ _ := hW
  refine lv_aload_n hx hb d_T_init_67 rfl (lv_at hl 0 rfl) ?_
  refine lv_bipush (v := 17) hx hb d_T_init_68 (by decide) ?_
  refine xnewa (atype := .int) (ty := .int) (k := 17) (N' := 17) (t0 := 0) (cB := G.2.1 0) (a0 := (17, .inl (fun _ => 0))) hx hb hE hW (aw_I hE) rfl (Or.inl rfl) rfl (fun _ => rfl) (by decide) (by decide) (by decide) (by decide) d_T_init_70 (fun q8 H hW => ?_)
  have hW : Wx G (ws ++ [(h0, .inr (3, [.null, .ref q1, .ref q2, .ref q3, .ref q4, .ref q5, .ref q6, .ref q7, .null, .null, .int 0, .int 0, .int 0])), (q1, .inl (G.2.1 1, 1001, .inr (.inl (fun _ => 0)))), (q2, .inl (G.2.1 0, 1001, .inl (fun _ => 0))), (q3, .inl (G.2.1 0, 1001, .inl (fun _ => 0))), (q4, .inl (G.2.1 0, 1001, .inl (fun _ => 0))), (q5, .inl (G.2.1 1, 1001, .inr (.inl (fun _ => 0)))), (q6, .inl (G.2.1 1, 1001, .inr (.inl (fun _ => 0)))), (q7, .inl (G.2.1 0, 2048, .inl (fun _ => 0))), (q8, .inl (G.2.1 0, 17, .inl (fun _ => 0)))]) s.heap _ _ := hW
  refine xputF (T := F_T) (k := 8) (ty := .array .int) 0 hx hb hown hE hW ft_T ft_T_ok n_T ly_T rfl rfl (by decide) (lk_T_34 hE) rfl hnm rfl (by decide +kernel) rfl rfl (Nat.le_of_ble_eq_true rfl) d_T_init_72 (fun H locs hW => ?_)
  have hW : Wx G (ws ++ [(h0, .inr (3, [.null, .ref q1, .ref q2, .ref q3, .ref q4, .ref q5, .ref q6, .ref q7, .ref q8, .null, .int 0, .int 0, .int 0])), (q1, .inl (G.2.1 1, 1001, .inr (.inl (fun _ => 0)))), (q2, .inl (G.2.1 0, 1001, .inl (fun _ => 0))), (q3, .inl (G.2.1 0, 1001, .inl (fun _ => 0))), (q4, .inl (G.2.1 0, 1001, .inl (fun _ => 0))), (q5, .inl (G.2.1 1, 1001, .inr (.inl (fun _ => 0)))), (q6, .inl (G.2.1 1, 1001, .inr (.inl (fun _ => 0)))), (q7, .inl (G.2.1 0, 2048, .inl (fun _ => 0))), (q8, .inl (G.2.1 0, 17, .inl (fun _ => 0)))]) s.heap _ _ := hW
  refine lv_aload_n hx hb d_T_init_75 rfl (lv_at hl 0 rfl) ?_
  refine lv_sipush (v := 369) hx hb d_T_init_76 (by decide) ?_
  refine xnewa (atype := .int) (ty := .int) (k := 369) (N' := 369) (t0 := 0) (cB := G.2.1 0) (a0 := (369, .inl (fun _ => 0))) hx hb hE hW (aw_I hE) rfl (Or.inl rfl) rfl (fun _ => rfl) (by decide) (by decide) (by decide) (by decide) d_T_init_79 (fun q9 H hW => ?_)
  have hW : Wx G (ws ++ [(h0, .inr (3, [.null, .ref q1, .ref q2, .ref q3, .ref q4, .ref q5, .ref q6, .ref q7, .ref q8, .null, .int 0, .int 0, .int 0])), (q1, .inl (G.2.1 1, 1001, .inr (.inl (fun _ => 0)))), (q2, .inl (G.2.1 0, 1001, .inl (fun _ => 0))), (q3, .inl (G.2.1 0, 1001, .inl (fun _ => 0))), (q4, .inl (G.2.1 0, 1001, .inl (fun _ => 0))), (q5, .inl (G.2.1 1, 1001, .inr (.inl (fun _ => 0)))), (q6, .inl (G.2.1 1, 1001, .inr (.inl (fun _ => 0)))), (q7, .inl (G.2.1 0, 2048, .inl (fun _ => 0))), (q8, .inl (G.2.1 0, 17, .inl (fun _ => 0))), (q9, .inl (G.2.1 0, 369, .inl (fun _ => 0)))]) s.heap _ _ := hW
  refine xputF (T := F_T) (k := 9) (ty := .array .int) 0 hx hb hown hE hW ft_T ft_T_ok n_T ly_T rfl rfl (by decide) (lk_T_37 hE) rfl hnm rfl (by decide +kernel) rfl rfl (Nat.le_of_ble_eq_true rfl) d_T_init_81 (fun H locs hW => ?_)
  have hW : Wx G (ws ++ [(h0, .inr (3, [.null, .ref q1, .ref q2, .ref q3, .ref q4, .ref q5, .ref q6, .ref q7, .ref q8, .ref q9, .int 0, .int 0, .int 0])), (q1, .inl (G.2.1 1, 1001, .inr (.inl (fun _ => 0)))), (q2, .inl (G.2.1 0, 1001, .inl (fun _ => 0))), (q3, .inl (G.2.1 0, 1001, .inl (fun _ => 0))), (q4, .inl (G.2.1 0, 1001, .inl (fun _ => 0))), (q5, .inl (G.2.1 1, 1001, .inr (.inl (fun _ => 0)))), (q6, .inl (G.2.1 1, 1001, .inr (.inl (fun _ => 0)))), (q7, .inl (G.2.1 0, 2048, .inl (fun _ => 0))), (q8, .inl (G.2.1 0, 17, .inl (fun _ => 0))), (q9, .inl (G.2.1 0, 369, .inl (fun _ => 0)))]) s.heap _ _ := hW
  refine lv_aload_n hx hb d_T_init_84 rfl (lv_at hl 0 rfl) ?_
  refine lv_iconst (v := 0) hx hb d_T_init_85 (by decide) ?_
  refine xput (T := F_T) (k := 10) (ty := .int) 0 hx hb hown hE hW ft_T ft_T_ok n_T ly_T rfl rfl (by decide) (lk_T_40 hE) rfl (by decide +kernel) rfl rfl (Nat.le_of_ble_eq_true rfl) d_T_init_86 (fun H locs hW => ?_)
  have hW : Wx G (ws ++ [(h0, .inr (3, [.null, .ref q1, .ref q2, .ref q3, .ref q4, .ref q5, .ref q6, .ref q7, .ref q8, .ref q9, .int (0 : Int32), .int 0, .int 0])), (q1, .inl (G.2.1 1, 1001, .inr (.inl (fun _ => 0)))), (q2, .inl (G.2.1 0, 1001, .inl (fun _ => 0))), (q3, .inl (G.2.1 0, 1001, .inl (fun _ => 0))), (q4, .inl (G.2.1 0, 1001, .inl (fun _ => 0))), (q5, .inl (G.2.1 1, 1001, .inr (.inl (fun _ => 0)))), (q6, .inl (G.2.1 1, 1001, .inr (.inl (fun _ => 0)))), (q7, .inl (G.2.1 0, 2048, .inl (fun _ => 0))), (q8, .inl (G.2.1 0, 17, .inl (fun _ => 0))), (q9, .inl (G.2.1 0, 369, .inl (fun _ => 0)))]) s.heap _ _ := hW
  refine lv_aload_n hx hb d_T_init_89 rfl (lv_at hl 0 rfl) ?_
  refine lv_iconst (v := 0) hx hb d_T_init_90 (by decide) ?_
  refine xput (T := F_T) (k := 11) (ty := .boolean) 0 hx hb hown hE hW ft_T ft_T_ok n_T ly_T rfl rfl (by decide) (lk_T_44 hE) rfl (by decide +kernel) rfl rfl (Nat.le_of_ble_eq_true rfl) d_T_init_91 (fun H locs hW => ?_)
  have hW : Wx G (ws ++ [(h0, .inr (3, [.null, .ref q1, .ref q2, .ref q3, .ref q4, .ref q5, .ref q6, .ref q7, .ref q8, .ref q9, .int (0 : Int32), .int (0 : Int32), .int 0])), (q1, .inl (G.2.1 1, 1001, .inr (.inl (fun _ => 0)))), (q2, .inl (G.2.1 0, 1001, .inl (fun _ => 0))), (q3, .inl (G.2.1 0, 1001, .inl (fun _ => 0))), (q4, .inl (G.2.1 0, 1001, .inl (fun _ => 0))), (q5, .inl (G.2.1 1, 1001, .inr (.inl (fun _ => 0)))), (q6, .inl (G.2.1 1, 1001, .inr (.inl (fun _ => 0)))), (q7, .inl (G.2.1 0, 2048, .inl (fun _ => 0))), (q8, .inl (G.2.1 0, 17, .inl (fun _ => 0))), (q9, .inl (G.2.1 0, 369, .inl (fun _ => 0)))]) s.heap _ _ := hW
  refine lv_aload_n hx hb d_T_init_94 rfl (lv_at hl 0 rfl) ?_
  refine lv_iconst (v := 0) hx hb d_T_init_95 (by decide) ?_
  refine xput (T := F_T) (k := 12) (ty := .boolean) 0 hx hb hown hE hW ft_T ft_T_ok n_T ly_T rfl rfl (by decide) (lk_T_48 hE) rfl (by decide +kernel) rfl rfl (Nat.le_of_ble_eq_true rfl) d_T_init_96 (fun H locs hW => ?_)
  have hW : Wx G (ws ++ [(h0, .inr (3, [.null, .ref q1, .ref q2, .ref q3, .ref q4, .ref q5, .ref q6, .ref q7, .ref q8, .ref q9, .int (0 : Int32), .int (0 : Int32), .int (0 : Int32)])), (q1, .inl (G.2.1 1, 1001, .inr (.inl (fun _ => 0)))), (q2, .inl (G.2.1 0, 1001, .inl (fun _ => 0))), (q3, .inl (G.2.1 0, 1001, .inl (fun _ => 0))), (q4, .inl (G.2.1 0, 1001, .inl (fun _ => 0))), (q5, .inl (G.2.1 1, 1001, .inr (.inl (fun _ => 0)))), (q6, .inl (G.2.1 1, 1001, .inr (.inl (fun _ => 0)))), (q7, .inl (G.2.1 0, 2048, .inl (fun _ => 0))), (q8, .inl (G.2.1 0, 17, .inl (fun _ => 0))), (q9, .inl (G.2.1 0, 369, .inl (fun _ => 0)))]) s.heap _ _ := hW
  refine lv_aload_n hx hb d_T_init_99 rfl (lv_at hl 0 rfl) ?_
  refine lv_aload_n hx hb d_T_init_100 rfl (lv_at hl 1 rfl) ?_
  refine xputF (T := F_T) (k := 0) (ty := .object "PanelOffice$Pool") 0 hx hb hown hE hW ft_T ft_T_ok n_T ly_T rfl rfl (by decide) (lk_T_51 hE) rfl hnm rfl (by decide +kernel) rfl rfl (Nat.le_of_ble_eq_true rfl) d_T_init_101 (fun H locs hW => ?_)
  have hW : Wx G (ws ++ [(h0, .inr (3, [.ref p1, .ref q1, .ref q2, .ref q3, .ref q4, .ref q5, .ref q6, .ref q7, .ref q8, .ref q9, .int (0 : Int32), .int (0 : Int32), .int (0 : Int32)])), (q1, .inl (G.2.1 1, 1001, .inr (.inl (fun _ => 0)))), (q2, .inl (G.2.1 0, 1001, .inl (fun _ => 0))), (q3, .inl (G.2.1 0, 1001, .inl (fun _ => 0))), (q4, .inl (G.2.1 0, 1001, .inl (fun _ => 0))), (q5, .inl (G.2.1 1, 1001, .inr (.inl (fun _ => 0)))), (q6, .inl (G.2.1 1, 1001, .inr (.inl (fun _ => 0)))), (q7, .inl (G.2.1 0, 2048, .inl (fun _ => 0))), (q8, .inl (G.2.1 0, 17, .inl (fun _ => 0))), (q9, .inl (G.2.1 0, 369, .inl (fun _ => 0)))]) s.heap _ _ := hW
  refine lv_iconst (v := 0) hx hb d_T_init_104 (by decide) ?_
  refine lv_istore_n (lv' := [(2, .int 0), (0, .ref h0), (1, .ref p1)]) hx hb d_T_init_105 rfl hl (by decide) rfl (fun ls hl => ?_)
  refine W.cs (cells' := 9) (slots' := 8440) (by decide) (by decide) ?_
  have hW : Wx G (ws ++ tl G h0 p1 (fun i => [q1, q2, q3, q4, q5, q6, q7, q8, q9].getD i 0) (fun _ => 0)) s.heap _ _ := hW
  exact ti_outer (q := fun i => [q1, q2, q3, q4, q5, q6, q7, q8, q9].getD i 0) E 41 0 (fun _ => 0) ls _ _ (by omega) (fun _ _ h => absurd h (Nat.not_lt_zero _)) (fun _ _ => rfl) (lv_sub hl [1, 0] rfl) hW
