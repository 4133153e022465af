/-! Arrays.fill of the last array made, before the world is whole. -/
section Fill
variable {p : Program} {l : Launch} {e : Env} {R : Room} {s : State} {m : MethodId} {args : Array Value} {below : List Frame} {meth : Method} {c : Code} {H : Heap} {locs : List Loc} {cells slots : Nat} {Qg : State → Prop} {G : GG} {cc : ByteArray} {pc nL index : Nat} {ls : Array Slot} {rest : List Value} {own : String} {ret : Option FieldType}
theorem fill_loop {Rm : Room} {w : va_W} {a n : Nat} {v : Int32} (hn : n < 2 ^ 31) (E : En p l s m meth c args cc_A_fill2 4 R_A none G) :
    ∀ (d i : Nat) (f : Nat → Int32) (ls : Array Slot) (H : Heap) (locs : List Loc), i + d = n → (∀ j, j < i → f j = v) → lv_has ls 4 [(0, .ref a), (1, .int v), (2, .int (nI i)), (3, .int (nI n))] → Wx G (w ++ [(a, .inl (G.2.1 0, n, .inl f))]) s.heap H locs →
      W p l e Rm s m args below meth c H locs 0 0 (MQ below (va_Qv (fun u : Nat → Int32 => ∀ j, j < n → u j = v) (fun u t => OX G (w ++ [(a, .inl (G.2.1 0, n, .inl u))]) t) (fr G)) args s 0 0 (fr G)) (F0 m 5 ls []) := by
  obtain ⟨hx, hb, hml, hown, hr, hlk, hex, hE⟩ := id E
  intro d
  induction d with
  | zero =>
    intro i f ls H locs hi hf hl hW
    refine lv_iload_n hx hb d_A_fill2_5 rfl (lv_at hl 2 rfl) ?_
    refine lv_iload_n hx hb d_A_fill2_6 rfl (lv_at hl 3 rfl) ?_
    refine lv_icmp_ge (tgt := 20) hx hb d_A_fill2_7 rfl (fun hc => ?_) (fun hc => ?_)
    · exact xret f hx hb hr hlk hW (fun j hj => hf j (by omega)) rfl rfl rfl d_A_fill2_20
    · exact absurd (nI_le (by omega) (by omega)) hc
  | succ d ih =>
    intro i f ls H locs hi hf hl hW
    refine lv_iload_n hx hb d_A_fill2_5 rfl (lv_at hl 2 rfl) ?_
    refine lv_iload_n hx hb d_A_fill2_6 rfl (lv_at hl 3 rfl) ?_
    refine lv_icmp_ge (tgt := 20) hx hb d_A_fill2_7 rfl (fun hc => ?_) (fun hc => ?_)
    · exact absurd hc (nI_ge (by omega) (by omega))
    · refine lv_aload_n hx hb d_A_fill2_10 rfl (lv_at hl 0 rfl) ?_
      refine lv_iload_n hx hb d_A_fill2_11 rfl (lv_at hl 2 rfl) ?_
      refine lv_iload_n hx hb d_A_fill2_12 rfl (lv_at hl 1 rfl) ?_
      refine xastI 0 hx hb hE hW rfl (vp_in_nI (by omega) (by omega)) d_A_fill2_13 (fun H locs hW => ?_)
      have hW : Wx G (w ++ [(a, .inl (G.2.1 0, n, .inl (upd f i v)))]) s.heap H locs := by
        rw [nI_clamp (show i < 2 ^ 31 by omega)] at hW; exact hW
      refine lv_iinc (k := 2) (v := nI (i + 1)) (lv' := [(2, .int (nI (i + 1))), (0, .ref a), (1, .int v), (3, .int (nI n))]) hx hb d_A_fill2_14 hl rfl (ii_p1 (nI_succ i)) (by decide) rfl (fun ls hl => ?_)
      refine lv_goto (tgt := 5) hx hb d_A_fill2_17 rfl ?_
      refine ih (i + 1) (upd f i v) ls H locs (by omega) (fun j hj => ?_) (lv_sub hl [1, 2, 0, 3] rfl) hW
      by_cases hji : j = i
      · subst hji; exact pk_us
      · rw [pk_un hji]; exact hf j (by omega)
theorem k_fill (w : va_W) (a : Nat) {n : Nat} (f : Nat → Int32) (v : Int32) (hn : n < 2 ^ 31) : Ctk l y_A_fill2 cc_A_fill2 4 rm_A_fill G [.ref a, .int v] (w ++ [(a, .inl (G.2.1 0, n, .inl f))]) (fun u : Nat → Int32 => ∀ j, j < n → u j = v) (fun u => w ++ [(a, .inl (G.2.1 0, n, .inl u))]) 0 0 := by
  refine Ctk.op (own := R_A) (by decide) rfl (Nat.le_of_ble_eq_true rfl) (fun p e s m args below meth c ls E hnm hl hW => ?_)
  obtain ⟨hx, hb, hml, hown, hr, hlk, hex, hE⟩ := id E
  have hl : lv_has ls 4 [(0, .ref a), (1, .int v)] := hl
  refine lv_iconst (v := 0) hx hb d_A_fill2_0 (by decide) ?_
  refine lv_istore_n (lv' := [(2, .int 0), (0, .ref a), (1, .int v)]) hx hb d_A_fill2_1 rfl hl (by decide) rfl (fun ls hl => ?_)
  refine lv_aload_n hx hb d_A_fill2_2 rfl (lv_at hl 1 rfl) ?_
  refine xlenI (v := nI n) 0 hx hb hE hW rfl rfl d_A_fill2_3 ?_
  refine lv_istore_n (lv' := [(3, .int (nI n)), (2, .int 0), (0, .ref a), (1, .int v)]) hx hb d_A_fill2_4 rfl hl (by decide) rfl (fun ls hl => ?_)
  exact fill_loop hn E n 0 f ls s.heap [] (by omega) (fun j hj => absurd hj (Nat.not_lt_zero _)) (lv_sub hl [2, 3, 1, 0] rfl) hW
theorem xfill {n : Nat} {f : Nat → Int32} {v : Int32} (E : En p l s m meth c args cc nL own ret G) (w : va_W) (a : Nat) (hn : n < 2147483648) (cw : LkS s args own index y_A_fill2 cc_A_fill2 4 none 2) (hR : 1 ≤ R.frames ∧ 23 ≤ R.locals) (hW : Wx G (w ++ [(a, .inl (G.2.1 0, n, .inl f))]) s.heap H locs) (hsz : ls.size = nL) (hw8 : Nat.ble ((rest.map fun v => v.category).sum) 8 = true) (hdg : decode cc pc = .ok (.invokestatic index, 3))
    (kk : ∀ (u : Nat → Int32) (H : Heap) (locs : List Loc), (∀ j, j < n → u j = v) → Wx G (w ++ [(a, .inl (G.2.1 0, n, .inl u))]) s.heap H locs → W p l e R s m args below meth c H locs cells slots Qg (F0 m (pc + 3) ls rest)) (hcs : cells ≤ R.cells ∧ slots ≤ R.slots) : W p l e R s m args below meth c H locs cells slots Qg (F0 m pc ls (.int v :: .ref a :: rest)) := by
  obtain ⟨hx, hb, hml, hown, -, -, -, hE⟩ := E
  obtain ⟨⟨c1, c2, c3⟩, c4, c5, c7, c8⟩ := cw
  have hws : ∀ w ∈ [Cond.code y_A_fill2 cc_A_fill2 4 none], ∀ (a' : Array Value) (U : State), s.WarmedH U.vm → w.before a' U = true := by
    intro w hw a' U hU
    rw [List.mem_singleton.mp hw]
    exact c8 a' U hU
  have run : va_Run p l e R s m args below meth c H locs cells slots 0 0 (F0 m pc ls (.int v :: .ref a :: rest)) rest (va_Qv (fun u : Nat → Int32 => ∀ j, j < n → u j = v) (fun u t => OX G (w ++ [(a, .inl (G.2.1 0, n, .inl u))]) t) (fr G) [Value.ref a, Value.int v].toArray) (fr G) :=
    va_runS (Ts := []) (own := own) (n := 2) (As := [Value.ref a, Value.int v]) ⟨hx, hb, hml, hown, fun _ h => nomatch h⟩ (k_fill w a f v (by omega)) ⟨⟨rfl, rfl, by show 0 + 1 ≤ R.frames; omega, by show 8 + (4 + 11) + 0 ≤ R.locals; omega, hws, List.mem_cons_self, c8 _ _ (State.WarmedH.refl s), c7, ⟨c1, c2⟩, lk_len c3, c4⟩, c5⟩ ⟨ix_blind, fun U hU hw => ⟨rfl, ix_of hE hW U hU hw⟩⟩ rfl rfl hsz rfl (lv_room (Nat.le_of_ble_eq_true hw8)) hdg ⟨by omega, by omega⟩
  exact va_callv run hW.2.2.1 (fun _ _ h => h) (fun _ h => h) (fun u t H1 locs1 ht _ hq hB _ _ hS => kk u H1 locs1 hq ⟨by rw [← ht]; exact hB.1, hB.2, hS, hW.2.2.2⟩)
end Fill
