set_option maxHeartbeats 4000000 in
set_option maxRecDepth 100000 in
theorem k_P_init {l : Launch} {G : GG} (ws : va_W) (h0 : Nat) : Ctk l y_P_init cc_P_init 1 rm_P_init G [.ref h0] (ws ++ [(h0, .inr (1, [.null, .null, .null, .null, .int 0, .int 0]))]) (fun u : (Nat → Nat) × (Nat → Nat → Int32) => True) (fun u => ws ++ [(h0, .inr (1, [.ref (u.1 0), .ref (u.1 1), .ref (u.1 2), .ref (u.1 3), .int (0 : Int32), .int (0 : Int32)])), ((u.1 0), .inl (G.2.1 0, 3, .inl (upd (upd (upd (fun _ => 0) 0 (1 : Int32)) 1 (1 : Int32)) 2 (1 : Int32)))), ((u.1 1), .inl (G.2.1 0, 40, .inl (fun _ => 0))), ((u.1 2), .inl (G.2.1 0, 16, .inl (fun _ => 0))), ((u.1 3), .inl (G.2.1 0, 16, .inl (fun _ => 0)))]) 4 75 := by
  refine Ctk.op (own := R_P) (by decide) rfl (Nat.le_of_ble_eq_true rfl) (fun p e s m args below meth c ls E hnm hl hW => ?_)
  have hnm : meth.name = "<init>" := hnm
  obtain ⟨hx, hb, hml, hown, hr, hlk, hex, hE⟩ := id E
  have hl : lv_has ls 1 [(0, .ref h0)] := hl
  refine lv_aload_n hx hb d_P_init_0 rfl (lv_at hl 0 rfl) ?_
  refine W.objInit hx hb hown (oi_P hE) (oi_im hE) (oi_code hE) rfl (by rw [hml]; exact hl.1) rfl d_P_init_1 (Nat.le_of_ble_eq_true rfl) (Nat.le_of_ble_eq_true rfl) ?_
  refine W.eq (g2 := F0 m 4 ls []) rfl ?_
  refine lv_aload_n hx hb d_P_init_4 rfl (lv_at hl 0 rfl) ?_
  refine lv_iconst (v := 3) hx hb d_P_init_5 (by decide) ?_
  refine xnewa (atype := .int) (ty := .int) (k := 3) (N' := 3) (t0 := 0) (cB := G.2.1 0) (a0 := (3, .inl (fun _ => 0))) hx hb hE hW (aw_I hE) rfl (Or.inl rfl) rfl (fun _ => rfl) (by decide) (by decide) (by decide) (by decide) d_P_init_6 (fun q1 H hW => ?_)
  have hW : Wx G (ws ++ [(h0, .inr (1, [.null, .null, .null, .null, .int 0, .int 0])), (q1, .inl (G.2.1 0, 3, .inl (fun _ => 0)))]) s.heap _ _ := hW
  refine lv_dup hx hb d_P_init_8 rfl ?_
  refine lv_iconst (v := 0) hx hb d_P_init_9 (by decide) ?_
  refine lv_iconst (v := 1) hx hb d_P_init_10 (by decide) ?_
  refine xastI (nn := 3) 1 hx hb hE hW rfl (by unfold vp_in; decide) d_P_init_11 (fun H locs hW => ?_)
  have hW : Wx G (ws ++ [(h0, .inr (1, [.null, .null, .null, .null, .int 0, .int 0])), (q1, .inl (G.2.1 0, 3, .inl (upd (fun _ => 0) 0 (1 : Int32))))]) s.heap _ _ := hW
  refine lv_dup hx hb d_P_init_12 rfl ?_
  refine lv_iconst (v := 1) hx hb d_P_init_13 (by decide) ?_
  refine lv_iconst (v := 1) hx hb d_P_init_14 (by decide) ?_
  refine xastI (nn := 3) 1 hx hb hE hW rfl (by unfold vp_in; decide) d_P_init_15 (fun H locs hW => ?_)
  have hW : Wx G (ws ++ [(h0, .inr (1, [.null, .null, .null, .null, .int 0, .int 0])), (q1, .inl (G.2.1 0, 3, .inl (upd (upd (fun _ => 0) 0 (1 : Int32)) 1 (1 : Int32))))]) s.heap _ _ := hW
  refine lv_dup hx hb d_P_init_16 rfl ?_
  refine lv_iconst (v := 2) hx hb d_P_init_17 (by decide) ?_
  refine lv_iconst (v := 1) hx hb d_P_init_18 (by decide) ?_
  refine xastI (nn := 3) 1 hx hb hE hW rfl (by unfold vp_in; decide) d_P_init_19 (fun H locs hW => ?_)
  have hW : Wx G (ws ++ [(h0, .inr (1, [.null, .null, .null, .null, .int 0, .int 0])), (q1, .inl (G.2.1 0, 3, .inl (upd (upd (upd (fun _ => 0) 0 (1 : Int32)) 1 (1 : Int32)) 2 (1 : Int32))))]) s.heap _ _ := hW
  refine xputF (T := F_P) (k := 0) (ty := .array .int) 0 hx hb hown hE hW ft_P ft_P_ok n_P ly_P rfl rfl (by decide) (lk_P_9 hE) rfl hnm rfl (by decide +kernel) rfl rfl (Nat.le_of_ble_eq_true rfl) d_P_init_20 (fun H locs hW => ?_)
  have hW : Wx G (ws ++ [(h0, .inr (1, [.ref q1, .null, .null, .null, .int 0, .int 0])), (q1, .inl (G.2.1 0, 3, .inl (upd (upd (upd (fun _ => 0) 0 (1 : Int32)) 1 (1 : Int32)) 2 (1 : Int32))))]) s.heap _ _ := hW
  refine lv_aload_n hx hb d_P_init_23 rfl (lv_at hl 0 rfl) ?_
  refine lv_bipush (v := 40) hx hb d_P_init_24 (by decide) ?_
  refine xnewa (atype := .int) (ty := .int) (k := 40) (N' := 40) (t0 := 0) (cB := G.2.1 0) (a0 := (40, .inl (fun _ => 0))) hx hb hE hW (aw_I hE) rfl (Or.inl rfl) rfl (fun _ => rfl) (by decide) (by decide) (by decide) (by decide) d_P_init_26 (fun q2 H hW => ?_)
  have hW : Wx G (ws ++ [(h0, .inr (1, [.ref q1, .null, .null, .null, .int 0, .int 0])), (q1, .inl (G.2.1 0, 3, .inl (upd (upd (upd (fun _ => 0) 0 (1 : Int32)) 1 (1 : Int32)) 2 (1 : Int32)))), (q2, .inl (G.2.1 0, 40, .inl (fun _ => 0)))]) s.heap _ _ := hW
  refine xputF (T := F_P) (k := 1) (ty := .array .int) 0 hx hb hown hE hW ft_P ft_P_ok n_P ly_P rfl rfl (by decide) (lk_P_15 hE) rfl hnm rfl (by decide +kernel) rfl rfl (Nat.le_of_ble_eq_true rfl) d_P_init_28 (fun H locs hW => ?_)
  have hW : Wx G (ws ++ [(h0, .inr (1, [.ref q1, .ref q2, .null, .null, .int 0, .int 0])), (q1, .inl (G.2.1 0, 3, .inl (upd (upd (upd (fun _ => 0) 0 (1 : Int32)) 1 (1 : Int32)) 2 (1 : Int32)))), (q2, .inl (G.2.1 0, 40, .inl (fun _ => 0)))]) s.heap _ _ := hW
  refine lv_aload_n hx hb d_P_init_31 rfl (lv_at hl 0 rfl) ?_
  refine lv_bipush (v := 16) hx hb d_P_init_32 (by decide) ?_
  refine xnewa (atype := .int) (ty := .int) (k := 16) (N' := 16) (t0 := 0) (cB := G.2.1 0) (a0 := (16, .inl (fun _ => 0))) hx hb hE hW (aw_I hE) rfl (Or.inl rfl) rfl (fun _ => rfl) (by decide) (by decide) (by decide) (by decide) d_P_init_34 (fun q3 H hW => ?_)
  have hW : Wx G (ws ++ [(h0, .inr (1, [.ref q1, .ref q2, .null, .null, .int 0, .int 0])), (q1, .inl (G.2.1 0, 3, .inl (upd (upd (upd (fun _ => 0) 0 (1 : Int32)) 1 (1 : Int32)) 2 (1 : Int32)))), (q2, .inl (G.2.1 0, 40, .inl (fun _ => 0))), (q3, .inl (G.2.1 0, 16, .inl (fun _ => 0)))]) s.heap _ _ := hW
  refine xputF (T := F_P) (k := 2) (ty := .array .int) 0 hx hb hown hE hW ft_P ft_P_ok n_P ly_P rfl rfl (by decide) (lk_P_18 hE) rfl hnm rfl (by decide +kernel) rfl rfl (Nat.le_of_ble_eq_true rfl) d_P_init_36 (fun H locs hW => ?_)
  have hW : Wx G (ws ++ [(h0, .inr (1, [.ref q1, .ref q2, .ref q3, .null, .int 0, .int 0])), (q1, .inl (G.2.1 0, 3, .inl (upd (upd (upd (fun _ => 0) 0 (1 : Int32)) 1 (1 : Int32)) 2 (1 : Int32)))), (q2, .inl (G.2.1 0, 40, .inl (fun _ => 0))), (q3, .inl (G.2.1 0, 16, .inl (fun _ => 0)))]) s.heap _ _ := hW
  refine lv_aload_n hx hb d_P_init_39 rfl (lv_at hl 0 rfl) ?_
  refine lv_bipush (v := 16) hx hb d_P_init_40 (by decide) ?_
  refine xnewa (atype := .int) (ty := .int) (k := 16) (N' := 16) (t0 := 0) (cB := G.2.1 0) (a0 := (16, .inl (fun _ => 0))) hx hb hE hW (aw_I hE) rfl (Or.inl rfl) rfl (fun _ => rfl) (by decide) (by decide) (by decide) (by decide) d_P_init_42 (fun q4 H hW => ?_)
  have hW : Wx G (ws ++ [(h0, .inr (1, [.ref q1, .ref q2, .ref q3, .null, .int 0, .int 0])), (q1, .inl (G.2.1 0, 3, .inl (upd (upd (upd (fun _ => 0) 0 (1 : Int32)) 1 (1 : Int32)) 2 (1 : Int32)))), (q2, .inl (G.2.1 0, 40, .inl (fun _ => 0))), (q3, .inl (G.2.1 0, 16, .inl (fun _ => 0))), (q4, .inl (G.2.1 0, 16, .inl (fun _ => 0)))]) s.heap _ _ := hW
  refine xputF (T := F_P) (k := 3) (ty := .array .int) 0 hx hb hown hE hW ft_P ft_P_ok n_P ly_P rfl rfl (by decide) (lk_P_21 hE) rfl hnm rfl (by decide +kernel) rfl rfl (Nat.le_of_ble_eq_true rfl) d_P_init_44 (fun H locs hW => ?_)
  have hW : Wx G (ws ++ [(h0, .inr (1, [.ref q1, .ref q2, .ref q3, .ref q4, .int 0, .int 0])), (q1, .inl (G.2.1 0, 3, .inl (upd (upd (upd (fun _ => 0) 0 (1 : Int32)) 1 (1 : Int32)) 2 (1 : Int32)))), (q2, .inl (G.2.1 0, 40, .inl (fun _ => 0))), (q3, .inl (G.2.1 0, 16, .inl (fun _ => 0))), (q4, .inl (G.2.1 0, 16, .inl (fun _ => 0)))]) s.heap _ _ := hW
  refine lv_aload_n hx hb d_P_init_47 rfl (lv_at hl 0 rfl) ?_
  refine lv_iconst (v := 0) hx hb d_P_init_48 (by decide) ?_
  refine xput (T := F_P) (k := 4) (ty := .int) 0 hx hb hown hE hW ft_P ft_P_ok n_P ly_P rfl rfl (by decide) (lk_P_24 hE) rfl (by decide +kernel) rfl rfl (Nat.le_of_ble_eq_true rfl) d_P_init_49 (fun H locs hW => ?_)
  have hW : Wx G (ws ++ [(h0, .inr (1, [.ref q1, .ref q2, .ref q3, .ref q4, .int (0 : Int32), .int 0])), (q1, .inl (G.2.1 0, 3, .inl (upd (upd (upd (fun _ => 0) 0 (1 : Int32)) 1 (1 : Int32)) 2 (1 : Int32)))), (q2, .inl (G.2.1 0, 40, .inl (fun _ => 0))), (q3, .inl (G.2.1 0, 16, .inl (fun _ => 0))), (q4, .inl (G.2.1 0, 16, .inl (fun _ => 0)))]) s.heap _ _ := hW
  refine lv_aload_n hx hb d_P_init_52 rfl (lv_at hl 0 rfl) ?_
  refine lv_iconst (v := 0) hx hb d_P_init_53 (by decide) ?_
  refine xput (T := F_P) (k := 5) (ty := .int) 0 hx hb hown hE hW ft_P ft_P_ok n_P ly_P rfl rfl (by decide) (lk_P_28 hE) rfl (by decide +kernel) rfl rfl (Nat.le_of_ble_eq_true rfl) d_P_init_54 (fun H locs hW => ?_)
  have hW : Wx G (ws ++ [(h0, .inr (1, [.ref q1, .ref q2, .ref q3, .ref q4, .int (0 : Int32), .int (0 : Int32)])), (q1, .inl (G.2.1 0, 3, .inl (upd (upd (upd (fun _ => 0) 0 (1 : Int32)) 1 (1 : Int32)) 2 (1 : Int32)))), (q2, .inl (G.2.1 0, 40, .inl (fun _ => 0))), (q3, .inl (G.2.1 0, 16, .inl (fun _ => 0))), (q4, .inl (G.2.1 0, 16, .inl (fun _ => 0)))]) s.heap _ _ := hW
  exact xret (fun i => [q1, q2, q3, q4].getD i 0, fun _ _ => 0) hx hb hr hlk hW (trivial) rfl rfl rfl d_P_init_57
set_option maxHeartbeats 4000000 in
set_option maxRecDepth 100000 in
theorem k_Q_init {l : Launch} {G : GG} (ws : va_W) (h0 : Nat) : Ctk l y_Q_init cc_Q_init 1 rm_Q_init G [.ref h0] (ws ++ [(h0, .inr (2, [.null, .null]))]) (fun u : (Nat → Nat) × (Nat → Nat → Int32) => (∀ j : Nat, j < 12 → (u.2 0) j = (8 : Int32))) (fun u => ws ++ [(h0, .inr (2, [.ref (u.1 0), .ref (u.1 1)])), ((u.1 0), .inl (G.2.1 0, 12, .inl (fun _ => 0))), ((u.1 1), .inl (G.2.1 0, 12, .inl (u.2 0)))]) 2 24 := by
  refine Ctk.op (own := R_Q) (by decide) rfl (Nat.le_of_ble_eq_true rfl) (fun p e s m args below meth c ls E hnm hl hW => ?_)
  have hnm : meth.name = "<init>" := hnm
  obtain ⟨hx, hb, hml, hown, hr, hlk, hex, hE⟩ := id E
  have hl : lv_has ls 1 [(0, .ref h0)] := hl
  refine lv_aload_n hx hb d_Q_init_0 rfl (lv_at hl 0 rfl) ?_
  refine W.objInit hx hb hown (oi_Q hE) (oi_im hE) (oi_code hE) rfl (by rw [hml]; exact hl.1) rfl d_Q_init_1 (Nat.le_of_ble_eq_true rfl) (Nat.le_of_ble_eq_true rfl) ?_
  refine W.eq (g2 := F0 m 4 ls []) rfl ?_
  refine lv_aload_n hx hb d_Q_init_4 rfl (lv_at hl 0 rfl) ?_
  refine lv_bipush (v := 12) hx hb d_Q_init_5 (by decide) ?_
  refine xnewa (atype := .int) (ty := .int) (k := 12) (N' := 12) (t0 := 0) (cB := G.2.1 0) (a0 := (12, .inl (fun _ => 0))) hx hb hE hW (aw_I hE) rfl (Or.inl rfl) rfl (fun _ => rfl) (by decide) (by decide) (by decide) (by decide) d_Q_init_7 (fun q1 H hW => ?_)
  have hW : Wx G (ws ++ [(h0, .inr (2, [.null, .null])), (q1, .inl (G.2.1 0, 12, .inl (fun _ => 0)))]) s.heap _ _ := hW
  refine xputF (T := F_Q) (k := 0) (ty := .array .int) 0 hx hb hown hE hW ft_Q ft_Q_ok n_Q ly_Q rfl rfl (by decide) (lk_Q_9 hE) rfl hnm rfl (by decide +kernel) rfl rfl (Nat.le_of_ble_eq_true rfl) d_Q_init_9 (fun H locs hW => ?_)
  have hW : Wx G (ws ++ [(h0, .inr (2, [.ref q1, .null])), (q1, .inl (G.2.1 0, 12, .inl (fun _ => 0)))]) s.heap _ _ := hW
  refine lv_aload_n hx hb d_Q_init_12 rfl (lv_at hl 0 rfl) ?_
  refine lv_bipush (v := 12) hx hb d_Q_init_13 (by decide) ?_
  refine xnewa (atype := .int) (ty := .int) (k := 12) (N' := 12) (t0 := 0) (cB := G.2.1 0) (a0 := (12, .inl (fun _ => 0))) hx hb hE hW (aw_I hE) rfl (Or.inl rfl) rfl (fun _ => rfl) (by decide) (by decide) (by decide) (by decide) d_Q_init_15 (fun q2 H hW => ?_)
  have hW : Wx G (ws ++ [(h0, .inr (2, [.ref q1, .null])), (q1, .inl (G.2.1 0, 12, .inl (fun _ => 0))), (q2, .inl (G.2.1 0, 12, .inl (fun _ => 0)))]) s.heap _ _ := hW
  refine xputF (T := F_Q) (k := 1) (ty := .array .int) 0 hx hb hown hE hW ft_Q ft_Q_ok n_Q ly_Q rfl rfl (by decide) (lk_Q_15 hE) rfl hnm rfl (by decide +kernel) rfl rfl (Nat.le_of_ble_eq_true rfl) d_Q_init_17 (fun H locs hW => ?_)
  have hW : Wx G (ws ++ [(h0, .inr (2, [.ref q1, .ref q2])), (q1, .inl (G.2.1 0, 12, .inl (fun _ => 0))), (q2, .inl (G.2.1 0, 12, .inl (fun _ => 0)))]) s.heap _ _ := hW
  refine lv_aload_n hx hb d_Q_init_20 rfl (lv_at hl 0 rfl) ?_
  refine xget (T := F_Q) (k := 1) 0 hx hb hown hE hW ly_Q rfl rfl (by decide) (lk_Q_15 hE) rfl d_Q_init_21 ?_
  refine lv_bipush (v := 8) hx hb d_Q_init_24 (by decide) ?_
  have hW := wx_re (w' := (ws ++ [(h0, .inr (2, [.ref q1, .ref q2])), (q1, .inl (G.2.1 0, 12, .inl (fun _ => 0)))]) ++ [(q2, .inl (G.2.1 0, 12, .inl (fun _ => 0)))]) (List.append_assoc ws [(h0, .inr (2, [.ref q1, .ref q2])), (q1, .inl (G.2.1 0, 12, .inl (fun _ => 0)))] [(q2, .inl (G.2.1 0, 12, .inl (fun _ => 0)))]).symm hW
  refine xfill E (ws ++ [(h0, .inr (2, [.ref q1, .ref q2])), (q1, .inl (G.2.1 0, 12, .inl (fun _ => 0)))]) q2 (by decide) (cs_Q_18 hE) (by decide) hW hl.1 rfl d_Q_init_26 (fun u3 H locs hu3 hW => ?_) (by decide)
  have hW := wx_re (w' := ws ++ [(h0, .inr (2, [.ref q1, .ref q2])), (q1, .inl (G.2.1 0, 12, .inl (fun _ => 0))), (q2, .inl (G.2.1 0, 12, .inl u3))]) (List.append_assoc ws [(h0, .inr (2, [.ref q1, .ref q2])), (q1, .inl (G.2.1 0, 12, .inl (fun _ => 0)))] [(q2, .inl (G.2.1 0, 12, .inl u3))]) hW
  exact xret (fun i => [q1, q2].getD i 0, fun j => [u3].getD j (fun _ => 0)) hx hb hr hlk hW (hu3) rfl rfl rfl d_Q_init_29
set_option maxHeartbeats 4000000 in
set_option maxRecDepth 100000 in
theorem k_R_init {l : Launch} {G : GG} (ws : va_W) (h0 p1 p2 : Nat) : Ctk l y_R_init cc_R_init 3 rm_R_init G [.ref h0, .ref p1, .ref p2] (ws ++ [(h0, .inr (4, [.null, .null]))]) (fun u : (Nat → Nat) × (Nat → Nat → Int32) => True) (fun u => ws ++ [(h0, .inr (4, [.ref p1, .ref p2]))]) 0 0 := by
  refine Ctk.op (own := R_R) (by decide) rfl (Nat.le_of_ble_eq_true rfl) (fun p e s m args below meth c ls E hnm hl hW => ?_)
  have hnm : meth.name = "<init>" := hnm
  obtain ⟨hx, hb, hml, hown, hr, hlk, hex, hE⟩ := id E
  have hl : lv_has ls 3 [(0, .ref h0), (1, .ref p1), (2, .ref p2)] := hl
  refine lv_aload_n hx hb d_R_init_0 rfl (lv_at hl 0 rfl) ?_
  refine W.objInit hx hb hown (oi_R hE) (oi_im hE) (oi_code hE) rfl (by rw [hml]; exact hl.1) rfl d_R_init_1 (Nat.le_of_ble_eq_true rfl) (Nat.le_of_ble_eq_true rfl) ?_
  refine W.eq (g2 := F0 m 4 ls []) rfl ?_
  refine lv_aload_n hx hb d_R_init_4 rfl (lv_at hl 0 rfl) ?_
  refine lv_aload_n hx hb d_R_init_5 rfl (lv_at hl 1 rfl) ?_
  refine xputF (T := F_R) (k := 0) (ty := .object "PanelOffice$Pool") 0 hx hb hown hE hW ft_R ft_R_ok n_R ly_R rfl rfl (by decide) (lk_R_7 hE) rfl hnm rfl (by decide +kernel) rfl rfl (Nat.le_of_ble_eq_true rfl) d_R_init_6 (fun H locs hW => ?_)
  have hW : Wx G (ws ++ [(h0, .inr (4, [.ref p1, .null]))]) s.heap _ _ := hW
  refine lv_aload_n hx hb d_R_init_9 rfl (lv_at hl 0 rfl) ?_
  refine lv_aload_n hx hb d_R_init_10 rfl (lv_at hl 2 rfl) ?_
  refine xputF (T := F_R) (k := 1) (ty := .object "PanelOffice$Tally") 0 hx hb hown hE hW ft_R ft_R_ok n_R ly_R rfl rfl (by decide) (lk_R_13 hE) rfl hnm rfl (by decide +kernel) rfl rfl (Nat.le_of_ble_eq_true rfl) d_R_init_11 (fun H locs hW => ?_)
  have hW : Wx G (ws ++ [(h0, .inr (4, [.ref p1, .ref p2]))]) s.heap _ _ := hW
  exact xret (fun i => [].getD i 0, fun _ _ => 0) hx hb hr hlk hW (trivial) rfl rfl rfl d_R_init_14
set_option maxHeartbeats 4000000 in
set_option maxRecDepth 100000 in
theorem k_C_init {l : Launch} {G : GG} (ws : va_W) (h0 p1 p2 : Nat) : Ctk l y_C_init cc_C_init 3 rm_C_init G [.ref h0, .ref p1, .ref p2] (ws ++ [(h0, .inr (5, [.null, .null, .null, .null, .int 0, .int 0]))]) (fun u : (Nat → Nat) × (Nat → Nat → Int32) => (∀ j : Nat, j < 12 → (u.2 0) j = (8 : Int32))) (fun u => ws ++ [(h0, .inr (5, [.ref p1, .ref p2, .ref (u.1 0), .ref (u.1 3), .int (0 : Int32), .int (0 : Int32)])), ((u.1 0), .inr (2, [.ref (u.1 1), .ref (u.1 2)])), ((u.1 1), .inl (G.2.1 0, 12, .inl (fun _ => 0))), ((u.1 2), .inl (G.2.1 0, 12, .inl (u.2 0))), ((u.1 3), .inl (G.2.1 0, 12, .inl (fun _ => 0)))]) 4 38 := by
  refine Ctk.op (own := R_C) (by decide) rfl (Nat.le_of_ble_eq_true rfl) (fun p e s m args below meth c ls E hnm hl hW => ?_)
  have hnm : meth.name = "<init>" := hnm
  obtain ⟨hx, hb, hml, hown, hr, hlk, hex, hE⟩ := id E
  have hl : lv_has ls 3 [(0, .ref h0), (1, .ref p1), (2, .ref p2)] := hl
  refine lv_aload_n hx hb d_C_init_0 rfl (lv_at hl 0 rfl) ?_
  refine W.objInit hx hb hown (oi_C hE) (oi_im hE) (oi_code hE) rfl (by rw [hml]; exact hl.1) rfl d_C_init_1 (Nat.le_of_ble_eq_true rfl) (Nat.le_of_ble_eq_true rfl) ?_
  refine W.eq (g2 := F0 m 4 ls []) rfl ?_
  refine lv_aload_n hx hb d_C_init_4 rfl (lv_at hl 0 rfl) ?_
  refine xnew (ci := 2) (fs := [.null, .null]) hx hb hown hE hW ft_Q ft_Q_ok ly_Q (nl_C_9 hE) (nin_Q hE) (nz_Q hE) rfl df_Q (by decide) d_C_init_5 (fun q1 H hW => ?_)
  have hW : Wx G (ws ++ [(h0, .inr (5, [.null, .null, .null, .null, .int 0, .int 0])), (q1, .inr (2, [.null, .null]))]) s.heap _ _ := hW
  refine lv_dup hx hb d_C_init_8 rfl ?_
  have hW := wx_re (w' := (ws ++ [(h0, .inr (5, [.null, .null, .null, .null, .int 0, .int 0]))]) ++ [(q1, .inr (2, [.null, .null]))]) (List.append_assoc ws [(h0, .inr (5, [.null, .null, .null, .null, .int 0, .int 0]))] [(q1, .inr (2, [.null, .null]))]).symm hW
  refine xcall E (k_Q_init (l := l) (ws ++ [(h0, .inr (5, [.null, .null, .null, .null, .int 0, .int 0]))]) q1) (ci_C_11 hE) (by decide) (by decide) hW hl.1 rfl rfl rfl d_C_init_9 (fun u2 H locs hu2 hW => ?_)
  have hW := wx_re (w' := ws ++ [(h0, .inr (5, [.null, .null, .null, .null, .int 0, .int 0])), (q1, .inr (2, [.ref (u2.1 0), .ref (u2.1 1)])), ((u2.1 0), .inl (G.2.1 0, 12, .inl (fun _ => 0))), ((u2.1 1), .inl (G.2.1 0, 12, .inl (u2.2 0)))]) (List.append_assoc ws [(h0, .inr (5, [.null, .null, .null, .null, .int 0, .int 0]))] [(q1, .inr (2, [.ref (u2.1 0), .ref (u2.1 1)])), ((u2.1 0), .inl (G.2.1 0, 12, .inl (fun _ => 0))), ((u2.1 1), .inl (G.2.1 0, 12, .inl (u2.2 0)))]) hW
  refine xputF (T := F_C) (k := 2) (ty := .object "PanelOffice$Quotas") 0 hx hb hown hE hW ft_C ft_C_ok n_C ly_C rfl rfl (by decide) (lk_C_12 hE) rfl hnm rfl (by decide +kernel) rfl rfl (Nat.le_of_ble_eq_true rfl) d_C_init_12 (fun H locs hW => ?_)
  have hW : Wx G (ws ++ [(h0, .inr (5, [.null, .null, .ref q1, .null, .int 0, .int 0])), (q1, .inr (2, [.ref (u2.1 0), .ref (u2.1 1)])), ((u2.1 0), .inl (G.2.1 0, 12, .inl (fun _ => 0))), ((u2.1 1), .inl (G.2.1 0, 12, .inl (u2.2 0)))]) s.heap _ _ := hW
  refine lv_aload_n hx hb d_C_init_15 rfl (lv_at hl 0 rfl) ?_
  refine lv_bipush (v := 12) hx hb d_C_init_16 (by decide) ?_
  refine xnewa (atype := .int) (ty := .int) (k := 12) (N' := 12) (t0 := 0) (cB := G.2.1 0) (a0 := (12, .inl (fun _ => 0))) hx hb hE hW (aw_I hE) rfl (Or.inl rfl) rfl (fun _ => rfl) (by decide) (by decide) (by decide) (by decide) d_C_init_18 (fun q3 H hW => ?_)
  have hW : Wx G (ws ++ [(h0, .inr (5, [.null, .null, .ref q1, .null, .int 0, .int 0])), (q1, .inr (2, [.ref (u2.1 0), .ref (u2.1 1)])), ((u2.1 0), .inl (G.2.1 0, 12, .inl (fun _ => 0))), ((u2.1 1), .inl (G.2.1 0, 12, .inl (u2.2 0))), (q3, .inl (G.2.1 0, 12, .inl (fun _ => 0)))]) s.heap _ _ := hW
  refine xputF (T := F_C) (k := 3) (ty := .array .int) 0 hx hb hown hE hW ft_C ft_C_ok n_C ly_C rfl rfl (by decide) (lk_C_18 hE) rfl hnm rfl (by decide +kernel) rfl rfl (Nat.le_of_ble_eq_true rfl) d_C_init_20 (fun H locs hW => ?_)
  have hW : Wx G (ws ++ [(h0, .inr (5, [.null, .null, .ref q1, .ref q3, .int 0, .int 0])), (q1, .inr (2, [.ref (u2.1 0), .ref (u2.1 1)])), ((u2.1 0), .inl (G.2.1 0, 12, .inl (fun _ => 0))), ((u2.1 1), .inl (G.2.1 0, 12, .inl (u2.2 0))), (q3, .inl (G.2.1 0, 12, .inl (fun _ => 0)))]) s.heap _ _ := hW
  refine lv_aload_n hx hb d_C_init_23 rfl (lv_at hl 0 rfl) ?_
  refine lv_iconst (v := 0) hx hb d_C_init_24 (by decide) ?_
  refine xput (T := F_C) (k := 4) (ty := .int) 0 hx hb hown hE hW ft_C ft_C_ok n_C ly_C rfl rfl (by decide) (lk_C_22 hE) rfl (by decide +kernel) rfl rfl (Nat.le_of_ble_eq_true rfl) d_C_init_25 (fun H locs hW => ?_)
  have hW : Wx G (ws ++ [(h0, .inr (5, [.null, .null, .ref q1, .ref q3, .int (0 : Int32), .int 0])), (q1, .inr (2, [.ref (u2.1 0), .ref (u2.1 1)])), ((u2.1 0), .inl (G.2.1 0, 12, .inl (fun _ => 0))), ((u2.1 1), .inl (G.2.1 0, 12, .inl (u2.2 0))), (q3, .inl (G.2.1 0, 12, .inl (fun _ => 0)))]) s.heap _ _ := hW
  refine lv_aload_n hx hb d_C_init_28 rfl (lv_at hl 0 rfl) ?_
  refine lv_iconst (v := 0) hx hb d_C_init_29 (by decide) ?_
  refine xput (T := F_C) (k := 5) (ty := .boolean) 0 hx hb hown hE hW ft_C ft_C_ok n_C ly_C rfl rfl (by decide) (lk_C_26 hE) rfl (by decide +kernel) rfl rfl (Nat.le_of_ble_eq_true rfl) d_C_init_30 (fun H locs hW => ?_)
  have hW : Wx G (ws ++ [(h0, .inr (5, [.null, .null, .ref q1, .ref q3, .int (0 : Int32), .int (0 : Int32)])), (q1, .inr (2, [.ref (u2.1 0), .ref (u2.1 1)])), ((u2.1 0), .inl (G.2.1 0, 12, .inl (fun _ => 0))), ((u2.1 1), .inl (G.2.1 0, 12, .inl (u2.2 0))), (q3, .inl (G.2.1 0, 12, .inl (fun _ => 0)))]) s.heap _ _ := hW
  refine lv_aload_n hx hb d_C_init_33 rfl (lv_at hl 0 rfl) ?_
  refine lv_aload_n hx hb d_C_init_34 rfl (lv_at hl 1 rfl) ?_
  refine xputF (T := F_C) (k := 0) (ty := .object "PanelOffice$Pool") 0 hx hb hown hE hW ft_C ft_C_ok n_C ly_C rfl rfl (by decide) (lk_C_30 hE) rfl hnm rfl (by decide +kernel) rfl rfl (Nat.le_of_ble_eq_true rfl) d_C_init_35 (fun H locs hW => ?_)
  have hW : Wx G (ws ++ [(h0, .inr (5, [.ref p1, .null, .ref q1, .ref q3, .int (0 : Int32), .int (0 : Int32)])), (q1, .inr (2, [.ref (u2.1 0), .ref (u2.1 1)])), ((u2.1 0), .inl (G.2.1 0, 12, .inl (fun _ => 0))), ((u2.1 1), .inl (G.2.1 0, 12, .inl (u2.2 0))), (q3, .inl (G.2.1 0, 12, .inl (fun _ => 0)))]) s.heap _ _ := hW
  refine lv_aload_n hx hb d_C_init_38 rfl (lv_at hl 0 rfl) ?_
  refine lv_aload_n hx hb d_C_init_39 rfl (lv_at hl 2 rfl) ?_
  refine xputF (T := F_C) (k := 1) (ty := .object "PanelOffice$Tally") 0 hx hb hown hE hW ft_C ft_C_ok n_C ly_C rfl rfl (by decide) (lk_C_34 hE) rfl hnm rfl (by decide +kernel) rfl rfl (Nat.le_of_ble_eq_true rfl) d_C_init_40 (fun H locs hW => ?_)
  have hW : Wx G (ws ++ [(h0, .inr (5, [.ref p1, .ref p2, .ref q1, .ref q3, .int (0 : Int32), .int (0 : Int32)])), (q1, .inr (2, [.ref (u2.1 0), .ref (u2.1 1)])), ((u2.1 0), .inl (G.2.1 0, 12, .inl (fun _ => 0))), ((u2.1 1), .inl (G.2.1 0, 12, .inl (u2.2 0))), (q3, .inl (G.2.1 0, 12, .inl (fun _ => 0)))]) s.heap _ _ := hW
  exact xret (fun i => [q1, (u2.1 0), (u2.1 1), q3].getD i 0, fun j => [(u2.2 0)].getD j (fun _ => 0)) hx hb hr hlk hW (hu2) rfl rfl rfl d_C_init_43
set_option maxHeartbeats 4000000 in
set_option maxRecDepth 100000 in
theorem k_D_init {l : Launch} {G : GG} (ws : va_W) (h0 : Nat) : Ctk l y_D_init cc_D_init 1 rm_D_init G [.ref h0] (ws ++ [(h0, .inr (6, [.int 0, .int 0, .int 0, .long 0, .long 0, .int 0, .int 0, .long 0]))]) (fun u : (Nat → Nat) × (Nat → Nat → Int32) => True) (fun u => ws ++ [(h0, .inr (6, [.int (0 : Int32), .int (0 : Int32), .int (2 : Int32), .long (1 : Int64), .long (1 : Int64), .int (0 : Int32), .int (0 : Int32), .long (0 : Int64)]))]) 0 0 := by
  refine Ctk.op (own := R_D) (by decide) rfl (Nat.le_of_ble_eq_true rfl) (fun p e s m args below meth c ls E hnm hl hW => ?_)
  have hnm : meth.name = "<init>" := hnm
  obtain ⟨hx, hb, hml, hown, hr, hlk, hex, hE⟩ := id E
  have hl : lv_has ls 1 [(0, .ref h0)] := hl
  refine lv_aload_n hx hb d_D_init_0 rfl (lv_at hl 0 rfl) ?_
  refine W.objInit hx hb hown (oi_D hE) (oi_im hE) (oi_code hE) rfl (by rw [hml]; exact hl.1) rfl d_D_init_1 (Nat.le_of_ble_eq_true rfl) (Nat.le_of_ble_eq_true rfl) ?_
  refine W.eq (g2 := F0 m 4 ls []) rfl ?_
  refine lv_aload_n hx hb d_D_init_4 rfl (lv_at hl 0 rfl) ?_
  refine lv_iconst (v := 0) hx hb d_D_init_5 (by decide) ?_
  refine xput (T := F_D) (k := 0) (ty := .boolean) 0 hx hb hown hE hW ft_D ft_D_ok n_D ly_D rfl rfl (by decide) (lk_D_9 hE) rfl (by decide +kernel) rfl rfl (Nat.le_of_ble_eq_true rfl) d_D_init_6 (fun H locs hW => ?_)
  have hW : Wx G (ws ++ [(h0, .inr (6, [.int (0 : Int32), .int 0, .int 0, .long 0, .long 0, .int 0, .int 0, .long 0]))]) s.heap _ _ := hW
  refine lv_aload_n hx hb d_D_init_9 rfl (lv_at hl 0 rfl) ?_
  refine lv_iconst (v := 0) hx hb d_D_init_10 (by decide) ?_
  refine xput (T := F_D) (k := 1) (ty := .boolean) 0 hx hb hown hE hW ft_D ft_D_ok n_D ly_D rfl rfl (by decide) (lk_D_15 hE) rfl (by decide +kernel) rfl rfl (Nat.le_of_ble_eq_true rfl) d_D_init_11 (fun H locs hW => ?_)
  have hW : Wx G (ws ++ [(h0, .inr (6, [.int (0 : Int32), .int (0 : Int32), .int 0, .long 0, .long 0, .int 0, .int 0, .long 0]))]) s.heap _ _ := hW
  refine lv_aload_n hx hb d_D_init_14 rfl (lv_at hl 0 rfl) ?_
  refine lv_iconst (v := 2) hx hb d_D_init_15 (by decide) ?_
  refine xput (T := F_D) (k := 2) (ty := .int) 0 hx hb hown hE hW ft_D ft_D_ok n_D ly_D rfl rfl (by decide) (lk_D_18 hE) rfl (by decide +kernel) rfl rfl (Nat.le_of_ble_eq_true rfl) d_D_init_16 (fun H locs hW => ?_)
  have hW : Wx G (ws ++ [(h0, .inr (6, [.int (0 : Int32), .int (0 : Int32), .int (2 : Int32), .long 0, .long 0, .int 0, .int 0, .long 0]))]) s.heap _ _ := hW
  refine lv_aload_n hx hb d_D_init_19 rfl (lv_at hl 0 rfl) ?_
  refine lv_lconst (v := 1) hx hb d_D_init_20 (by decide) ?_
  refine xput (T := F_D) (k := 3) (ty := .long) 0 hx hb hown hE hW ft_D ft_D_ok n_D ly_D rfl rfl (by decide) (lk_D_22 hE) rfl (by decide +kernel) rfl rfl (Nat.le_of_ble_eq_true rfl) d_D_init_21 (fun H locs hW => ?_)
  have hW : Wx G (ws ++ [(h0, .inr (6, [.int (0 : Int32), .int (0 : Int32), .int (2 : Int32), .long (1 : Int64), .long 0, .int 0, .int 0, .long 0]))]) s.heap _ _ := hW
  refine lv_aload_n hx hb d_D_init_24 rfl (lv_at hl 0 rfl) ?_
  refine lv_lconst (v := 1) hx hb d_D_init_25 (by decide) ?_
  refine xput (T := F_D) (k := 4) (ty := .long) 0 hx hb hown hE hW ft_D ft_D_ok n_D ly_D rfl rfl (by decide) (lk_D_26 hE) rfl (by decide +kernel) rfl rfl (Nat.le_of_ble_eq_true rfl) d_D_init_26 (fun H locs hW => ?_)
  have hW : Wx G (ws ++ [(h0, .inr (6, [.int (0 : Int32), .int (0 : Int32), .int (2 : Int32), .long (1 : Int64), .long (1 : Int64), .int 0, .int 0, .long 0]))]) s.heap _ _ := hW
  refine lv_aload_n hx hb d_D_init_29 rfl (lv_at hl 0 rfl) ?_
  refine lv_iconst (v := 0) hx hb d_D_init_30 (by decide) ?_
  refine xput (T := F_D) (k := 5) (ty := .int) 0 hx hb hown hE hW ft_D ft_D_ok n_D ly_D rfl rfl (by decide) (lk_D_29 hE) rfl (by decide +kernel) rfl rfl (Nat.le_of_ble_eq_true rfl) d_D_init_31 (fun H locs hW => ?_)
  have hW : Wx G (ws ++ [(h0, .inr (6, [.int (0 : Int32), .int (0 : Int32), .int (2 : Int32), .long (1 : Int64), .long (1 : Int64), .int (0 : Int32), .int 0, .long 0]))]) s.heap _ _ := hW
  refine lv_aload_n hx hb d_D_init_34 rfl (lv_at hl 0 rfl) ?_
  refine lv_iconst (v := 0) hx hb d_D_init_35 (by decide) ?_
  refine xput (T := F_D) (k := 6) (ty := .int) 0 hx hb hown hE hW ft_D ft_D_ok n_D ly_D rfl rfl (by decide) (lk_D_32 hE) rfl (by decide +kernel) rfl rfl (Nat.le_of_ble_eq_true rfl) d_D_init_36 (fun H locs hW => ?_)
  have hW : Wx G (ws ++ [(h0, .inr (6, [.int (0 : Int32), .int (0 : Int32), .int (2 : Int32), .long (1 : Int64), .long (1 : Int64), .int (0 : Int32), .int (0 : Int32), .long 0]))]) s.heap _ _ := hW
  refine lv_aload_n hx hb d_D_init_39 rfl (lv_at hl 0 rfl) ?_
  refine lv_lconst (v := 0) hx hb d_D_init_40 (by decide) ?_
  refine xput (T := F_D) (k := 7) (ty := .long) 0 hx hb hown hE hW ft_D ft_D_ok n_D ly_D rfl rfl (by decide) (lk_D_35 hE) rfl (by decide +kernel) rfl rfl (Nat.le_of_ble_eq_true rfl) d_D_init_41 (fun H locs hW => ?_)
  have hW : Wx G (ws ++ [(h0, .inr (6, [.int (0 : Int32), .int (0 : Int32), .int (2 : Int32), .long (1 : Int64), .long (1 : Int64), .int (0 : Int32), .int (0 : Int32), .long (0 : Int64)]))]) s.heap _ _ := hW
  exact xret (fun i => [].getD i 0, fun _ _ => 0) hx hb hr hlk hW (trivial) rfl rfl rfl d_D_init_44
set_option maxHeartbeats 4000000 in
set_option maxRecDepth 100000 in
theorem k_S_init {l : Launch} {G : GG} (ws : va_W) (h0 p1 p2 : Nat) : Ctk l y_S_init cc_S_init 3 rm_S_init G [.ref h0, .ref p1, .ref p2] (ws ++ [(h0, .inr (7, [.null, .null, .null, .null, .null, .int 0, .long 0, .long 0, .int 0]))]) (fun u : (Nat → Nat) × (Nat → Nat → Int32) => True) (fun u => ws ++ [(h0, .inr (7, [.ref p1, .ref p2, .ref (u.1 0), .ref (u.1 1), .ref (u.1 2), .int (0 : Int32), .long (0 : Int64), .long (0 : Int64), .int (-1 : Int32)])), ((u.1 0), .inl (G.2.1 0, 8, .inl (fun _ => 0))), ((u.1 1), .inl (G.2.1 0, 12, .inl (fun _ => 0))), ((u.1 2), .inl (G.2.1 0, 40, .inl (fun _ => 0)))]) 3 60 := by
  refine Ctk.op (own := R_S) (by decide) rfl (Nat.le_of_ble_eq_true rfl) (fun p e s m args below meth c ls E hnm hl hW => ?_)
  have hnm : meth.name = "<init>" := hnm
  obtain ⟨hx, hb, hml, hown, hr, hlk, hex, hE⟩ := id E
  have hl : lv_has ls 3 [(0, .ref h0), (1, .ref p1), (2, .ref p2)] := hl
  refine lv_aload_n hx hb d_S_init_0 rfl (lv_at hl 0 rfl) ?_
  refine W.objInit hx hb hown (oi_S hE) (oi_im hE) (oi_code hE) rfl (by rw [hml]; exact hl.1) rfl d_S_init_1 (Nat.le_of_ble_eq_true rfl) (Nat.le_of_ble_eq_true rfl) ?_
  refine W.eq (g2 := F0 m 4 ls []) rfl ?_
  refine lv_aload_n hx hb d_S_init_4 rfl (lv_at hl 0 rfl) ?_
  refine lv_bipush (v := 8) hx hb d_S_init_5 (by decide) ?_
  refine xnewa (atype := .int) (ty := .int) (k := 8) (N' := 8) (t0 := 0) (cB := G.2.1 0) (a0 := (8, .inl (fun _ => 0))) hx hb hE hW (aw_I hE) rfl (Or.inl rfl) rfl (fun _ => rfl) (by decide) (by decide) (by decide) (by decide) d_S_init_7 (fun q1 H hW => ?_)
  have hW : Wx G (ws ++ [(h0, .inr (7, [.null, .null, .null, .null, .null, .int 0, .long 0, .long 0, .int 0])), (q1, .inl (G.2.1 0, 8, .inl (fun _ => 0)))]) s.heap _ _ := hW
  refine xputF (T := F_S) (k := 2) (ty := .array .int) 0 hx hb hown hE hW ft_S ft_S_ok n_S ly_S rfl rfl (by decide) (lk_S_9 hE) rfl hnm rfl (by decide +kernel) rfl rfl (Nat.le_of_ble_eq_true rfl) d_S_init_9 (fun H locs hW => ?_)
  have hW : Wx G (ws ++ [(h0, .inr (7, [.null, .null, .ref q1, .null, .null, .int 0, .long 0, .long 0, .int 0])), (q1, .inl (G.2.1 0, 8, .inl (fun _ => 0)))]) s.heap _ _ := hW
  refine lv_aload_n hx hb d_S_init_12 rfl (lv_at hl 0 rfl) ?_
  refine lv_bipush (v := 12) hx hb d_S_init_13 (by decide) ?_
  refine xnewa (atype := .int) (ty := .int) (k := 12) (N' := 12) (t0 := 0) (cB := G.2.1 0) (a0 := (12, .inl (fun _ => 0))) hx hb hE hW (aw_I hE) rfl (Or.inl rfl) rfl (fun _ => rfl) (by decide) (by decide) (by decide) (by decide) d_S_init_15 (fun q2 H hW => ?_)
  have hW : Wx G (ws ++ [(h0, .inr (7, [.null, .null, .ref q1, .null, .null, .int 0, .long 0, .long 0, .int 0])), (q1, .inl (G.2.1 0, 8, .inl (fun _ => 0))), (q2, .inl (G.2.1 0, 12, .inl (fun _ => 0)))]) s.heap _ _ := hW
  refine xputF (T := F_S) (k := 3) (ty := .array .int) 0 hx hb hown hE hW ft_S ft_S_ok n_S ly_S rfl rfl (by decide) (lk_S_15 hE) rfl hnm rfl (by decide +kernel) rfl rfl (Nat.le_of_ble_eq_true rfl) d_S_init_17 (fun H locs hW => ?_)
  have hW : Wx G (ws ++ [(h0, .inr (7, [.null, .null, .ref q1, .ref q2, .null, .int 0, .long 0, .long 0, .int 0])), (q1, .inl (G.2.1 0, 8, .inl (fun _ => 0))), (q2, .inl (G.2.1 0, 12, .inl (fun _ => 0)))]) s.heap _ _ := hW
  refine lv_aload_n hx hb d_S_init_20 rfl (lv_at hl 0 rfl) ?_
  refine lv_bipush (v := 40) hx hb d_S_init_21 (by decide) ?_
  refine xnewa (atype := .int) (ty := .int) (k := 40) (N' := 40) (t0 := 0) (cB := G.2.1 0) (a0 := (40, .inl (fun _ => 0))) hx hb hE hW (aw_I hE) rfl (Or.inl rfl) rfl (fun _ => rfl) (by decide) (by decide) (by decide) (by decide) d_S_init_23 (fun q3 H hW => ?_)
  have hW : Wx G (ws ++ [(h0, .inr (7, [.null, .null, .ref q1, .ref q2, .null, .int 0, .long 0, .long 0, .int 0])), (q1, .inl (G.2.1 0, 8, .inl (fun _ => 0))), (q2, .inl (G.2.1 0, 12, .inl (fun _ => 0))), (q3, .inl (G.2.1 0, 40, .inl (fun _ => 0)))]) s.heap _ _ := hW
  refine xputF (T := F_S) (k := 4) (ty := .array .int) 0 hx hb hown hE hW ft_S ft_S_ok n_S ly_S rfl rfl (by decide) (lk_S_18 hE) rfl hnm rfl (by decide +kernel) rfl rfl (Nat.le_of_ble_eq_true rfl) d_S_init_25 (fun H locs hW => ?_)
  have hW : Wx G (ws ++ [(h0, .inr (7, [.null, .null, .ref q1, .ref q2, .ref q3, .int 0, .long 0, .long 0, .int 0])), (q1, .inl (G.2.1 0, 8, .inl (fun _ => 0))), (q2, .inl (G.2.1 0, 12, .inl (fun _ => 0))), (q3, .inl (G.2.1 0, 40, .inl (fun _ => 0)))]) s.heap _ _ := hW
  refine lv_aload_n hx hb d_S_init_28 rfl (lv_at hl 0 rfl) ?_
  refine lv_iconst (v := 0) hx hb d_S_init_29 (by decide) ?_
  refine xput (T := F_S) (k := 5) (ty := .int) 0 hx hb hown hE hW ft_S ft_S_ok n_S ly_S rfl rfl (by decide) (lk_S_21 hE) rfl (by decide +kernel) rfl rfl (Nat.le_of_ble_eq_true rfl) d_S_init_30 (fun H locs hW => ?_)
  have hW : Wx G (ws ++ [(h0, .inr (7, [.null, .null, .ref q1, .ref q2, .ref q3, .int (0 : Int32), .long 0, .long 0, .int 0])), (q1, .inl (G.2.1 0, 8, .inl (fun _ => 0))), (q2, .inl (G.2.1 0, 12, .inl (fun _ => 0))), (q3, .inl (G.2.1 0, 40, .inl (fun _ => 0)))]) s.heap _ _ := hW
  refine lv_aload_n hx hb d_S_init_33 rfl (lv_at hl 0 rfl) ?_
  refine lv_lconst (v := 0) hx hb d_S_init_34 (by decide) ?_
  refine xput (T := F_S) (k := 6) (ty := .long) 0 hx hb hown hE hW ft_S ft_S_ok n_S ly_S rfl rfl (by decide) (lk_S_25 hE) rfl (by decide +kernel) rfl rfl (Nat.le_of_ble_eq_true rfl) d_S_init_35 (fun H locs hW => ?_)
  have hW : Wx G (ws ++ [(h0, .inr (7, [.null, .null, .ref q1, .ref q2, .ref q3, .int (0 : Int32), .long (0 : Int64), .long 0, .int 0])), (q1, .inl (G.2.1 0, 8, .inl (fun _ => 0))), (q2, .inl (G.2.1 0, 12, .inl (fun _ => 0))), (q3, .inl (G.2.1 0, 40, .inl (fun _ => 0)))]) s.heap _ _ := hW
  refine lv_aload_n hx hb d_S_init_38 rfl (lv_at hl 0 rfl) ?_
  refine lv_lconst (v := 0) hx hb d_S_init_39 (by decide) ?_
  refine xput (T := F_S) (k := 7) (ty := .long) 0 hx hb hown hE hW ft_S ft_S_ok n_S ly_S rfl rfl (by decide) (lk_S_29 hE) rfl (by decide +kernel) rfl rfl (Nat.le_of_ble_eq_true rfl) d_S_init_40 (fun H locs hW => ?_)
  have hW : Wx G (ws ++ [(h0, .inr (7, [.null, .null, .ref q1, .ref q2, .ref q3, .int (0 : Int32), .long (0 : Int64), .long (0 : Int64), .int 0])), (q1, .inl (G.2.1 0, 8, .inl (fun _ => 0))), (q2, .inl (G.2.1 0, 12, .inl (fun _ => 0))), (q3, .inl (G.2.1 0, 40, .inl (fun _ => 0)))]) s.heap _ _ := hW
  refine lv_aload_n hx hb d_S_init_43 rfl (lv_at hl 0 rfl) ?_
  refine lv_iconst (v := -1) hx hb d_S_init_44 (by decide) ?_
  refine xput (T := F_S) (k := 8) (ty := .int) 0 hx hb hown hE hW ft_S ft_S_ok n_S ly_S rfl rfl (by decide) (lk_S_32 hE) rfl (by decide +kernel) rfl rfl (Nat.le_of_ble_eq_true rfl) d_S_init_45 (fun H locs hW => ?_)
  have hW : Wx G (ws ++ [(h0, .inr (7, [.null, .null, .ref q1, .ref q2, .ref q3, .int (0 : Int32), .long (0 : Int64), .long (0 : Int64), .int (-1 : Int32)])), (q1, .inl (G.2.1 0, 8, .inl (fun _ => 0))), (q2, .inl (G.2.1 0, 12, .inl (fun _ => 0))), (q3, .inl (G.2.1 0, 40, .inl (fun _ => 0)))]) s.heap _ _ := hW
  refine lv_aload_n hx hb d_S_init_48 rfl (lv_at hl 0 rfl) ?_
  refine lv_aload_n hx hb d_S_init_49 rfl (lv_at hl 1 rfl) ?_
  refine xputF (T := F_S) (k := 0) (ty := .object "PanelOffice$Pool") 0 hx hb hown hE hW ft_S ft_S_ok n_S ly_S rfl rfl (by decide) (lk_S_35 hE) rfl hnm rfl (by decide +kernel) rfl rfl (Nat.le_of_ble_eq_true rfl) d_S_init_50 (fun H locs hW => ?_)
  have hW : Wx G (ws ++ [(h0, .inr (7, [.ref p1, .null, .ref q1, .ref q2, .ref q3, .int (0 : Int32), .long (0 : Int64), .long (0 : Int64), .int (-1 : Int32)])), (q1, .inl (G.2.1 0, 8, .inl (fun _ => 0))), (q2, .inl (G.2.1 0, 12, .inl (fun _ => 0))), (q3, .inl (G.2.1 0, 40, .inl (fun _ => 0)))]) s.heap _ _ := hW
  refine lv_aload_n hx hb d_S_init_53 rfl (lv_at hl 0 rfl) ?_
  refine lv_aload_n hx hb d_S_init_54 rfl (lv_at hl 2 rfl) ?_
  refine xputF (T := F_S) (k := 1) (ty := .object "PanelOffice$Quotas") 0 hx hb hown hE hW ft_S ft_S_ok n_S ly_S rfl rfl (by decide) (lk_S_39 hE) rfl hnm rfl (by decide +kernel) rfl rfl (Nat.le_of_ble_eq_true rfl) d_S_init_55 (fun H locs hW => ?_)
  have hW : Wx G (ws ++ [(h0, .inr (7, [.ref p1, .ref p2, .ref q1, .ref q2, .ref q3, .int (0 : Int32), .long (0 : Int64), .long (0 : Int64), .int (-1 : Int32)])), (q1, .inl (G.2.1 0, 8, .inl (fun _ => 0))), (q2, .inl (G.2.1 0, 12, .inl (fun _ => 0))), (q3, .inl (G.2.1 0, 40, .inl (fun _ => 0)))]) s.heap _ _ := hW
  exact xret (fun i => [q1, q2, q3].getD i 0, fun _ _ => 0) hx hb hr hlk hW (trivial) rfl rfl rfl d_S_init_58
