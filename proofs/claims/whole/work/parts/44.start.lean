/-! The start: what the tables and the Statement give at the law's entry. Printed by wip/whole/startgen.py. -/
theorem ka_arr {s : State} {args : Array Value} {ty : FieldType} (hp : ty = .int ∨ ty = .long ∨ ty = .boolean) (h : (Cond.arrayClass ty).before args s = true) : ∃ cA : ClassId, ArrOfT s cA ty ∧ va_RA s cA ty := by
  simp only [Cond.before, Cond.holds, Cond.value] at h
  cases hc : s.vm.findClass ("[" ++ ty.toString) with
  | none => simp [hc] at h
  | some cA =>
    cases hk : s.vm.classes[cA]? with
    | none => simp [hc, hk] at h
    | some kA =>
      cases hkind : kA.kind with
      | array comp ty' =>
        have e1 : ty' = ty := by simpa [hc, hk, hkind] using h
        subst e1
        refine ⟨cA, fun n z => ⟨fun k h => (by cases h), kA, hk, comp, hkind⟩, ?_⟩
        rcases hp with rfl | rfl | rfl <;> exact hc
      | _ => simp [hc, hk, hkind] at h
theorem ka_no {s : State} {args : Array Value} {A B : String} (h : (Cond.not (.castable A B)).before args s = true) : xn_No A B s := by
  have hv := Cond.holds_not_iff.mp h
  simp only [Cond.value] at hv
  cases ha : s.vm.findClass A with
  | none => simp [ha] at hv
  | some a =>
    cases hb : s.vm.findClass B with
    | none => simp [ha, hb] at hv
    | some b =>
      refine ⟨a, b, ha, hb, ?_⟩
      simpa [ha, hb] using hv
set_option maxHeartbeats 4000000 in
set_option maxRecDepth 100000 in
theorem kk_start {l : Launch} {s : State} {b : Nat} (htr : l.stackTraces = false) (hts : ∀ w ∈ lw_tbl, w.before #[Value.ref b] s = true) (hgv : (Jvm.Cond.and given_1 narrow_1).before #[Value.ref b] s = true) : ∃ (D : va_G) (ty : Nat → ClassId), ∀ hh : Nat → Nat, KK l (D, ty, hh, s.heap.size) s := by
  have hw : ∀ w ∈ lw_tbl, wk w = true → w.before #[] s = true := fun w h1 h2 => wk_at (State.WarmedH.refl s) h2 (hts w h1)
  have hfl := flat_of_before _ hgv
  obtain ⟨cO, iO, hO⟩ := u_known (N := 12) (C := R_O) (T := F_O) hts (fun w h => lyt_in w (ly_O w h)) (hts (.instantiable R_O 12) (List.mem_append_right _ (List.mem_append_left _ (List.mem_of_getElem? (i := 20) rfl))))
  obtain ⟨cP, iP, hP⟩ := u_known (N := 6) (C := R_P) (T := F_P) hts (fun w h => lyt_in w (ly_P w h)) (hts (.instantiable R_P 6) (List.mem_append_right _ (List.mem_append_left _ (List.mem_of_getElem? (i := 28) rfl))))
  obtain ⟨cQ, iQ, hQ⟩ := u_known (N := 2) (C := R_Q) (T := F_Q) hts (fun w h => lyt_in w (ly_Q w h)) (hts (.instantiable R_Q 2) (List.mem_append_right _ (List.mem_append_left _ (List.mem_of_getElem? (i := 70) rfl))))
  obtain ⟨cT, iT, hT⟩ := u_known (N := 13) (C := R_T) (T := F_T) hts (fun w h => lyt_in w (ly_T w h)) (hts (.instantiable R_T 13) (List.mem_append_right _ (List.mem_append_left _ (List.mem_of_getElem? (i := 88) rfl))))
  obtain ⟨cR, iR, hR⟩ := u_known (N := 2) (C := R_R) (T := F_R) hts (fun w h => lyt_in w (ly_R w h)) (hts (.instantiable R_R 2) (List.mem_append_right _ (List.mem_append_left _ (List.mem_of_getElem? (i := 142) rfl))))
  obtain ⟨cC, iC, hC⟩ := u_known (N := 6) (C := R_C) (T := F_C) hts (fun w h => lyt_in w (ly_C w h)) (hts (.instantiable R_C 6) (List.mem_append_right _ (List.mem_append_left _ (List.mem_of_getElem? (i := 155) rfl))))
  obtain ⟨cD, iD, hD⟩ := u_known (N := 8) (C := R_D) (T := F_D) hts (fun w h => lyt_in w (ly_D w h)) (hts (.instantiable R_D 8) (List.mem_append_right _ (List.mem_append_left _ (List.mem_of_getElem? (i := 182) rfl))))
  obtain ⟨cS, iS, hS⟩ := u_known (N := 9) (C := R_S) (T := F_S) hts (fun w h => lyt_in w (ly_S w h)) (hts (.instantiable R_S 9) (List.mem_append_right _ (List.mem_append_left _ (List.mem_of_getElem? (i := 213) rfl))))
  obtain ⟨cM, iM, hM⟩ := u_known (N := 35) (C := R_M) (T := F_M) hts (fun w h => lyt_in w (ly_M w h)) (hts (.instantiable R_M 35) (List.mem_append_right _ (List.mem_append_right _ (List.mem_append_right _ (List.mem_append_right _ (List.mem_append_left _ (List.mem_of_getElem? (i := 183) rfl)))))))
  obtain ⟨aI, haI, hbI⟩ := ka_arr (Or.inl rfl) (hts (.arrayClass .int) (List.mem_append_right _ (List.mem_append_left _ (List.mem_of_getElem? (i := 68) rfl))))
  obtain ⟨aJ, haJ, hbJ⟩ := ka_arr (Or.inr (Or.inl rfl)) (hts (.arrayClass .long) (List.mem_append_right _ (List.mem_append_left _ (List.mem_of_getElem? (i := 140) rfl))))
  obtain ⟨aZ, haZ, hbZ⟩ := ka_arr (Or.inr (Or.inr rfl)) (hts (.arrayClass .boolean) (List.mem_append_right _ (List.mem_append_right _ (List.mem_append_right _ (List.mem_append_right _ (List.mem_append_right _ (List.mem_append_left _ (List.mem_of_getElem? (i := 54) rfl))))))))
  refine ⟨(fun i => [cO, cP, cQ, cT, cR, cC, cD, cS, cM].getD i 0, fun i => [iO, iP, iQ, iT, iR, iC, iD, iS, iM].getD i (fun _ => 0)), fun i => [aI, aJ, aZ].getD i 0, fun hh => ⟨⟨?_, ?_⟩, hw, ⟨⟨?_, ?_⟩, ⟨?_, ?_⟩⟩, ?_, htr, ?_⟩⟩
  · intro k q hq
    match k, hq with
    | 0, hq => cases hq; exact hO
    | 1, hq => cases hq; exact hP
    | 2, hq => cases hq; exact hQ
    | 3, hq => cases hq; exact hT
    | 4, hq => cases hq; exact hR
    | 5, hq => cases hq; exact hC
    | 6, hq => cases hq; exact hD
    | 7, hq => cases hq; exact hS
    | 8, hq => cases hq; exact hM
    | k + 9, hq => cases hq
  · intro k q hq
    match k, hq with
    | 0, hq => cases hq; exact ⟨haI, hbI⟩
    | 1, hq => cases hq; exact ⟨haJ, hbJ⟩
    | 2, hq => cases hq; exact ⟨haZ, hbZ⟩
    | k + 3, hq => cases hq
  · exact va_Zqof (hts (.laysStatic Bundle.tN "UNASSIGNED_STACK" Bundle.steD) (List.mem_append_right _ (List.mem_append_right _ (List.mem_append_left _ (List.mem_of_getElem? (i := 180) rfl))))) (hts (.initialized Bundle.tN) (List.mem_append_right _ (List.mem_append_left _ (List.mem_of_getElem? (i := 12) rfl)))) (hfl (.isRef (.static Bundle.tN "UNASSIGNED_STACK" Bundle.steD)) (by decide +kernel)) (fun a h1 h2 => by have h3 : s.heap.size ≤ a := h2; omega)
  · have h := hts (.laysStatic Bundle.tN "UNASSIGNED_STACK" Bundle.steD) (List.mem_append_right _ (List.mem_append_right _ (List.mem_append_left _ (List.mem_of_getElem? (i := 180) rfl))))
    obtain ⟨c, k, i, f, a, cell, hc, hi, hst, ha, hcell, hs, hcls, hlt, hty⟩ := Cond.laysStatic_spec h
    exact Cond.laysStatic_of (s := s) hc hi hst ha hcell hs hcls hlt hty
  · exact va_Zqof (hts (.laysStatic Bundle.tN "SUPPRESSED_SENTINEL" Bundle.listD) (List.mem_append_right _ (List.mem_append_right _ (List.mem_append_left _ (List.mem_of_getElem? (i := 182) rfl))))) (hts (.initialized Bundle.tN) (List.mem_append_right _ (List.mem_append_left _ (List.mem_of_getElem? (i := 12) rfl)))) (hfl (.isRef (.static Bundle.tN "SUPPRESSED_SENTINEL" Bundle.listD)) (by decide +kernel)) (fun a h1 h2 => by have h3 : s.heap.size ≤ a := h2; omega)
  · have h := hts (.laysStatic Bundle.tN "SUPPRESSED_SENTINEL" Bundle.listD) (List.mem_append_right _ (List.mem_append_right _ (List.mem_append_left _ (List.mem_of_getElem? (i := 182) rfl))))
    obtain ⟨c, k, i, f, a, cell, hc, hi, hst, ha, hcell, hs, hcls, hlt, hty⟩ := Cond.laysStatic_spec h
    exact Cond.laysStatic_of (s := s) hc hi hst ha hcell hs hcls hlt hty
  · intro x hx
    have key : ∀ x ∈ strs, Cond.stringRef x.1 x.2.1 x.2.2 ∈ lw_tbl ∧ x.1 = R_O := by decide +kernel
    obtain ⟨k1, k2⟩ := key x hx
    have h1 := hts _ k1
    obtain ⟨cC, kC, hfc, -⟩ := Cond.instantiable_spec (hts (.instantiable R_O 12) (List.mem_append_right _ (List.mem_append_left _ (List.mem_of_getElem? (i := 20) rfl))))
    have h2 : (Cond.stringRef x.1 x.2.1 x.2.2).holds #[Value.ref b] s none s [] = true := h1
    obtain ⟨k, cf, i, a, g1, g2, g3, g4, g5, g6⟩ := Cond.stringRef_spec (cur := cC) (by rw [k2]; exact hfc) h2
    exact ⟨a, vk_R.of h1 g6⟩
  · intro i j hi hj hne
    match i, j, hi, hj, hne with
    | 0, 1, _, _, _ => exact ka_no (hfl (.not (.castable "java/lang/IllegalArgumentException" "java/lang/IllegalStateException")) (by decide +kernel))
    | 0, 2, _, _, _ => exact ka_no (hfl (.not (.castable "java/lang/IllegalArgumentException" "java/util/NoSuchElementException")) (by decide +kernel))
    | 0, 3, _, _, _ => exact ka_no (hfl (.not (.castable "java/lang/IllegalArgumentException" "java/lang/UnsupportedOperationException")) (by decide +kernel))
    | 1, 0, _, _, _ => exact ka_no (hfl (.not (.castable "java/lang/IllegalStateException" "java/lang/IllegalArgumentException")) (by decide +kernel))
    | 1, 2, _, _, _ => exact ka_no (hfl (.not (.castable "java/lang/IllegalStateException" "java/util/NoSuchElementException")) (by decide +kernel))
    | 1, 3, _, _, _ => exact ka_no (hfl (.not (.castable "java/lang/IllegalStateException" "java/lang/UnsupportedOperationException")) (by decide +kernel))
    | 2, 0, _, _, _ => exact ka_no (hfl (.not (.castable "java/util/NoSuchElementException" "java/lang/IllegalArgumentException")) (by decide +kernel))
    | 2, 1, _, _, _ => exact ka_no (hfl (.not (.castable "java/util/NoSuchElementException" "java/lang/IllegalStateException")) (by decide +kernel))
    | 2, 3, _, _, _ => exact ka_no (hfl (.not (.castable "java/util/NoSuchElementException" "java/lang/UnsupportedOperationException")) (by decide +kernel))
    | 3, 0, _, _, _ => exact ka_no (hfl (.not (.castable "java/lang/UnsupportedOperationException" "java/lang/IllegalArgumentException")) (by decide +kernel))
    | 3, 1, _, _, _ => exact ka_no (hfl (.not (.castable "java/lang/UnsupportedOperationException" "java/lang/IllegalStateException")) (by decide +kernel))
    | 3, 2, _, _, _ => exact ka_no (hfl (.not (.castable "java/lang/UnsupportedOperationException" "java/util/NoSuchElementException")) (by decide +kernel))
    | 0, 0, _, _, h => exact absurd rfl h
    | 1, 1, _, _, h => exact absurd rfl h
    | 2, 2, _, _, h => exact absurd rfl h
    | 3, 3, _, _, h => exact absurd rfl h
    | i + 4, _, h, _, _ => exact absurd h (by omega)
    | _, j + 4, _, h, _ => exact absurd h (by omega)
