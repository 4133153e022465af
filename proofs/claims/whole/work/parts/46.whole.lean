/-! The law from its entry, if every run of calls from the start keeps to what the loop asks. -/
set_option maxHeartbeats 8000000 in
set_option maxRecDepth 100000 in
theorem whole_run {p : Program} {e : Env} {s : State} {m : MethodId} {below : List Frame} {meth : Method} {c : Code} (l : Launch) (htr : l.stackTraces = false) {b L : Nat} {xs : Nat → Int32} (hL : L ≤ 2560) (C0 : lw_At p s m meth c b L xs) (hrun : ∀ z, Init z → LawRun xs (L / 5) 0 z) : W p l e room_1 s m #[Value.ref b] below meth c s.heap [] 0 0 (lw_Z below #[Value.ref b] s) (entryFrame m ([Value.ref b] : List Value).toArray 8) := by
  obtain ⟨hx, hb, hr, hml, hown, hts, hX, hbl, hlk, hgv⟩ := C0
  have hown : s.vm.findClass R_L = some m.cls := hown
  obtain ⟨D, ty, hKK⟩ := kk_start htr hts hgv
  have hE : KK l (D, ty, fun _ => 0, s.heap.size) s := hKK _
  have hl := lv_entry [Value.ref b] (n := 8) (Nat.le_of_ble_eq_true rfl)
  rw [lg_entry_eq]
  generalize (lg_sl ([Value.ref b]) ++ List.replicate (8 - (lg_sl ([Value.ref b])).length) Slot.unset).toArray = ls at hl ⊢
  have hl : lv_has ls 8 [(0, .ref b)] := hl
  have hW : Wx (D, ty, fun _ => 0, s.heap.size) ([] ++ []) s.heap s.heap [] := ⟨fun k q h => by simp at h, ⟨fun i j p q h => by simp at h, fun k q h => by simp at h⟩, va_S.rf, Nat.le_refl _⟩
  refine xnew (ci := 0) (fs := [.null, .null, .null, .null, .null, .null, .null, .null, .int 0, .long 0, .int 0, .int 0]) hx hb hown hE hW ft_O ft_O_ok ly_O (nl_L_8 hE) (nin_O hE) (nz_O hE) rfl df_O (by decide) d_L_law_0 (fun x0 H hW => ?_)
  have hW : Wx (D, ty, fun _ => 0, s.heap.size) ([] ++ [(x0, .inr (0, [.null, .null, .null, .null, .null, .null, .null, .null, .int 0, .long 0, .int 0, .int 0]))]) s.heap _ _ := hW
  refine lv_dup hx hb d_L_law_3 rfl ?_
  refine xcallL (As := []) (rest := [.ref x0]) hx hb hml hown hE (k_O_init [] x0) (ci_L_87 hE) (by decide) (by decide) hW hl.1 rfl rfl rfl d_L_law_4 (fun u H locs hu hW => ?_)
  refine lv_astore_n (lv' := [(1, .ref x0), (0, .ref b)]) hx hb d_L_law_7 rfl hl (by decide) rfl (fun ls hl => ?_)
  have hW := wx_re (List.append_nil _).symm hW
  refine xnew (rs := []) (ci := 8) (fs := [.int 0, .int 0, .null, .null, .null, .null, .null, .int 0, .int 0, .null, .null, .int 0, .int 0, .int 0, .null, .null, .null, .null, .null, .int 0, .null, .int 0, .null, .int 0, .int 0, .int 0, .long 0, .long 0, .long 0, .int 0, .long 0, .null, .null, .null, .int 0]) hx hb hown hE hW ft_M ft_M_ok ly_M (nl_L_88 hE) (nin_M hE) (nz_M hE) rfl df_M (by decide) d_L_law_8 (fun x1 H hW => ?_)
  refine lv_dup hx hb d_L_law_11 rfl ?_
  refine xcallL (As := []) (rest := [.ref x1]) hx hb hml hown hE (k_M_init _ x1) (ci_L_90 hE) (by decide) (by decide) hW hl.1 rfl rfl rfl d_L_law_12 (fun v H locs hv hW => ?_)
  refine lv_astore_n (lv' := [(2, .ref x1), (1, .ref x0), (0, .ref b)]) hx hb d_L_law_15 rfl hl (by decide) rfl (fun ls hl => ?_)
  refine lv_iconst (v := 1) hx hb d_L_law_16 (by decide) ?_
  have hW := wx_re (List.append_nil _).symm hW
  refine xnewa (rs := []) (atype := .long) (ty := .long) (k := 1) (N' := 1) (t0 := 1) (cB := (((D, ty, fun _ => 0, s.heap.size) : GG)).2.1 1) (a0 := (1, .inr (.inl (fun _ => 0)))) hx hb hE hW (aw_J hE) rfl (Or.inr (Or.inl rfl)) rfl (fun _ => rfl) (by decide) (by decide) (by decide) (by decide) d_L_law_17 (fun x2 H hW => ?_)
  refine lv_astore_n (lv' := [(3, .ref x2), (2, .ref x1), (1, .ref x0), (0, .ref b)]) hx hb d_L_law_19 rfl hl (by decide) rfl (fun ls hl => ?_)
  refine lv_iconst (v := 0) hx hb d_L_law_20 (by decide) ?_
  refine lv_istore (lv' := [(4, .int 0), (3, .ref x2), (2, .ref x1), (1, .ref x0), (0, .ref b)]) hx hb d_L_law_21 hl (by decide) rfl (fun ls hl => ?_)
  refine W.widen (k := 50) (n := 16184) (by decide) (by decide) ?_
  have hW := wx_re (w' := wl D ty s.heap.size x0 x1 x2 u v (D, ty, fun _ => 0, s.heap.size)) rfl hW
  have hW := wx_re (wl_is D ty s.heap.size x0 x1 x2 u v) hW
  have hW : Wd (D, ty, fun i => [x0, (u.1 0), (u.1 1), (u.1 2), (u.1 3), (u.1 4), (u.1 5), (u.1 6), (u.1 7), (u.1 8), (u.1 9), (u.1 10), (u.1 11), (u.1 12), (u.1 13), (u.1 14), (u.1 15), (u.1 16), (u.1 17), (u.1 18), (u.1 19), (u.1 20), (u.1 21), (u.1 22), (u.1 23), (u.1 24), (u.1 25), (u.1 26), (u.1 27), (u.1 28), (u.1 29), x1, (v.1 0), (v.1 1), (v.1 2), (v.1 3), (v.1 4), (v.1 5), (v.1 6), (v.1 7), (v.1 8), (v.1 9), (v.1 10), (v.1 11), (v.1 12), (v.1 13), (v.1 14), (v.1 15), (v.1 16), x2].getD i 0, s.heap.size) (zinit (u.2 0) (u.2 1) (u.2 2)) s.heap _ _ := hW
  have E : EnL p l s m meth c #[Value.ref b] b L xs (D, ty, fun i => [x0, (u.1 0), (u.1 1), (u.1 2), (u.1 3), (u.1 4), (u.1 5), (u.1 6), (u.1 7), (u.1 8), (u.1 9), (u.1 10), (u.1 11), (u.1 12), (u.1 13), (u.1 14), (u.1 15), (u.1 16), (u.1 17), (u.1 18), (u.1 19), (u.1 20), (u.1 21), (u.1 22), (u.1 23), (u.1 24), (u.1 25), (u.1 26), (u.1 27), (u.1 28), (u.1 29), x1, (v.1 0), (v.1 1), (v.1 2), (v.1 3), (v.1 4), (v.1 5), (v.1 6), (v.1 7), (v.1 8), (v.1 9), (v.1 10), (v.1 11), (v.1 12), (v.1 13), (v.1 14), (v.1 15), (v.1 16), x2].getD i 0, s.heap.size) := ⟨hx, hb, hml, hown, hr, hlk, hX, hbl, rfl, hKK _⟩
  exact law_loop E hL (L / 5) 0 _ ls _ _ 50 16184 (by omega) (by omega) (hrun _ ⟨u.2 0, u.2 1, u.2 2, hu.1, hu.2.1, hu.2.2, rfl⟩) (by omega) (by omega) (lv_sub hl [4, 3, 2, 1, 0] rfl) hW
