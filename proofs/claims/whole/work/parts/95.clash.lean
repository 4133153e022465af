/-! The pure side: which quotas clash. -/
abbrev mkB (A : Ab) (l u : Nat → Nat) : Ab := (aN A, aC A, kN A, kC A, kH A, vS A, l, u, sZ A)
theorem wf_mkB {A : Ab} {l u : Nat → Nat} (hW : WF A) (h : ∀ q, q < 12 → l q ≤ u q ∧ u q ≤ 8) : WF (mkB A l u) := ⟨hW.1, hW.2.1, hW.2.2.1, hW.2.2.2.1, hW.2.2.2.2.1, h, hW.2.2.2.2.2.2⟩
theorem cl_eq (A : Ab) (q : Nat) : cl A (q + 1) = if (cl A q).2.2.2 = true then cl A q else if vS A (q / 4) ≤ q % 4 then cl A q else if lO A q = 0 ∧ hI A q = 8 then cl A q else if 1001 < (GN (lv (cl A q).1 q)).1 then (lv (cl A q).1 q, (cl A q).2.1, (cl A q).2.2.1, true) else if cnA (lv (cl A q).1 q) = 0 then (lv (cl A q).1 q, (cl A q).2.1, (cl A q).2.2.1, false) else ((cl A q).1, (cl A q).2.1 + 1, fup (cl A q).2.2.1 (cl A q).2.1 (10 * (q / 4) + q % 4), false) := rfl
theorem cl_rf {A : Ab} {q : Nat} (h : (cl A q).2.2.2 = true) : cl A (q + 1) = cl A q := by rw [cl_eq, if_pos h]
theorem cl_rfs {A : Ab} {q : Nat} (h : (cl A q).2.2.2 = true) : ∀ {d : Nat}, cl A (q + d) = cl A q
  | 0 => rfl
  | d + 1 => by
    have ih := cl_rfs h (d := d)
    rw [show q + (d + 1) = q + d + 1 by omega, cl_rf (by rw [ih]; exact h), ih]
theorem cl_v {A : Ab} {q : Nat} (h : vS A (q / 4) ≤ q % 4) : cl A (q + 1) = cl A q := by
  rw [cl_eq]
  by_cases c : (cl A q).2.2.2 = true
  · rw [if_pos c]
  · rw [if_neg c, if_pos h]
theorem cl_out {A : Ab} {q : Nat} (h : lO A q = 0 ∧ hI A q = 8) : cl A (q + 1) = cl A q := by
  rw [cl_eq]
  by_cases c : (cl A q).2.2.2 = true
  · rw [if_pos c]
  · rw [if_neg c]
    by_cases d : vS A (q / 4) ≤ q % 4
    · rw [if_pos d]
    · rw [if_neg d, if_pos h]
theorem cl_skip {A : Ab} {t v : Nat} (hv : vS A t ≤ v) : ∀ {d : Nat}, v + d ≤ 4 → cl A (4 * t + v + d) = cl A (4 * t + v)
  | 0, _ => rfl
  | d + 1, h => by
    rw [show 4 * t + v + (d + 1) = 4 * t + v + d + 1 by omega, cl_v (by rw [show (4 * t + v + d) / 4 = t by omega, show (4 * t + v + d) % 4 = v + d by omega]; omega)]
    exact cl_skip hv (by omega)
theorem cl_try {A : Ab} {q : Nat} (h1 : (cl A q).2.2.2 = false) (h2 : ¬ vS A (q / 4) ≤ q % 4) (h3 : ¬ (lO A q = 0 ∧ hI A q = 8)) : cl A (q + 1) = if 1001 < (GN (lv (cl A q).1 q)).1 then (lv (cl A q).1 q, (cl A q).2.1, (cl A q).2.2.1, true) else if cnA (lv (cl A q).1 q) = 0 then (lv (cl A q).1 q, (cl A q).2.1, (cl A q).2.2.1, false) else ((cl A q).1, (cl A q).2.1 + 1, fup (cl A q).2.2.1 (cl A q).2.1 (10 * (q / 4) + q % 4), false) := by
  rw [cl_eq, if_neg (by rw [h1]; decide), if_neg h2, if_neg h3]
theorem cl_inv {A : Ab} (hW : WF A) : ∀ q, ∃ l u, (cl A q).1 = mkB A l u ∧ (∀ q', q ≤ q' → l q' = lO A q' ∧ u q' = hI A q') ∧ (∀ q', q' < 12 → l q' ≤ u q' ∧ u q' ≤ 8) ∧ (cl A q).2.1 ≤ q
  | 0 => ⟨lO A, hI A, rfl, fun _ _ => ⟨rfl, rfl⟩, hW.2.2.2.2.2.1, Nat.le_refl _⟩
  | q + 1 => by
    obtain ⟨l, u, e, h1, h2, h3⟩ := cl_inv hW q
    have same : cl A (q + 1) = cl A q → ∃ l u, (cl A (q + 1)).1 = mkB A l u ∧ (∀ q', q + 1 ≤ q' → l q' = lO A q' ∧ u q' = hI A q') ∧ (∀ q', q' < 12 → l q' ≤ u q' ∧ u q' ≤ 8) ∧ (cl A (q + 1)).2.1 ≤ q + 1 := fun hs => ⟨l, u, by rw [hs]; exact e, fun q' hq => h1 q' (by omega), h2, by rw [hs]; omega⟩
    have left : lv (cl A q).1 q = mkB A (fup l q 0) (fup u q 8) := by rw [e]; rfl
    have lu : (∀ q', q + 1 ≤ q' → fup l q 0 q' = lO A q' ∧ fup u q 8 q' = hI A q') ∧ ∀ q', q' < 12 → fup l q 0 q' ≤ fup u q 8 q' ∧ fup u q 8 q' ≤ 8 := by
      refine ⟨fun q' hq => ?_, fun q' hq => ?_⟩
      · rw [fup_ne (by omega), fup_ne (by omega)]; exact h1 q' (by omega)
      · by_cases c : q' = q
        · subst c; rw [fup_at, fup_at]; omega
        · rw [fup_ne c, fup_ne c]; exact h2 q' hq
    by_cases c1 : (cl A q).2.2.2 = true
    · exact same (cl_rf c1)
    · by_cases c2 : vS A (q / 4) ≤ q % 4
      · exact same (cl_v c2)
      · by_cases c3 : lO A q = 0 ∧ hI A q = 8
        · exact same (cl_out c3)
        · rw [cl_try (by simpa using c1) c2 c3]
          by_cases c4 : 1001 < (GN (lv (cl A q).1 q)).1
          · rw [if_pos c4]; exact ⟨_, _, left, lu.1, lu.2, by show (cl A q).2.1 ≤ q + 1; omega⟩
          · rw [if_neg c4]
            by_cases c5 : cnA (lv (cl A q).1 q) = 0
            · rw [if_pos c5]; exact ⟨_, _, left, lu.1, lu.2, by show (cl A q).2.1 ≤ q + 1; omega⟩
            · rw [if_neg c5]; exact ⟨l, u, e, fun q' hq => h1 q' (by omega), h2, by show (cl A q).2.1 + 1 ≤ q + 1; omega⟩
abbrev Sf : Nat → Nat → Bool := fun c k => (decide (9 ≤ c) && decide (c ≤ 17)) || (c == 22 || (c == 23 || (c == 24 || (c == 20 && (k == 4 || k == 5)))))
theorem su_sf (c k : Nat) (e : Sf c k = false) : Su c k = false := by
  rw [Bool.or_eq_false_iff] at e; exact e.1
def CF (A : Ab) (q : Nat) (zs z : St) : Prop := Fz Sf zs z ∧ z.1 17 0 = 0 ∧ z.1 20 5 = bI (cl A q).2.2.2 ∧ z.1 20 4 = jI (cl A q).2.1 ∧ (∀ i, i < (cl A q).2.1 → z.1 24 i = jI ((cl A q).2.2.1 i)) ∧ ∀ q', q' < 12 → z.1 22 q' = jI (lO (cl A q).1 q') ∧ z.1 23 q' = jI (hI (cl A q).1 q')
theorem s_try {A : Ab} {t v : Nat} {zs z : St} {Q : St → Prop} (hW : WF A) (ht : t < 3) (hv : v < vS A t) (oK : OK A zs) (oV : OV A zs) (oQ : OQ A zs) (hP : Pas (zs.1 18)) (hC : CF A (4 * t + v) zs z) (h1 : (cl A (4 * t + v)).2.2.2 = false) (h3 : ¬ (lO A (4 * t + v) = 0 ∧ hI A (4 * t + v) = 8)) (hQ : ∀ z', CF A (4 * t + v + 1) zs z' → Q z') : P_C_tryWithout (jI t) (jI v) (jI (sZ A)) z Q := by
  have v4 := (hW.2.2.2.2.1 t ht).2
  obtain ⟨hF, h17, c5, c4, c24, c22⟩ := hC
  obtain ⟨l, u, eB, k1, k2, k3⟩ := cl_inv hW (4 * t + v)
  have hq : 4 * t + v < 12 := by omega
  have eL : lv (cl A (4 * t + v)).1 (4 * t + v) = mkB A (fup l (4 * t + v) 0) (fup u (4 * t + v) 8) := by rw [eB]; rfl
  have lu : ∀ q', q' < 12 → fup l (4 * t + v) 0 q' ≤ fup u (4 * t + v) 8 q' ∧ fup u (4 * t + v) 8 q' ≤ 8 := by
    intro q' hq'
    by_cases c : q' = 4 * t + v
    · subst c; rw [fup_at, fup_at]; omega
    · rw [fup_ne c, fup_ne c]; exact k2 q' hq'
  have hWB := wf_mkB hW lu
  have ect := cl_try h1 (show ¬ vS A ((4 * t + v) / 4) ≤ (4 * t + v) % 4 by rw [show (4 * t + v) / 4 = t by omega, show (4 * t + v) % 4 = v by omega]; omega) h3
  rw [eL, show (4 * t + v) / 4 = t by omega, show (4 * t + v) % 4 = v by omega] at ect
  unfold P_C_tryWithout P_O_quotaOf P_Q_leaveOut P_Q_set2
  rw [show (4 : Int32) = jI 4 from rfl, jI_mul, jI_add, Nat.mul_comm]
  refine ⟨vp_n hq (by decide), ex1 ⟨vp_n hq (by decide), ex1 ?_⟩⟩
  rw [jI_tn (n := 4 * t + v) (by omega)]
  generalize hz1 : wI (wI z 22 (4 * t + v) 0) 23 (4 * t + v) 8 = z1
  have hF1 : Fz Sf zs z1 := by rw [← hz1]; exact fz_I (fz_I hF rfl) rfl
  have q22 : ∀ q', q' < 12 → z1.1 22 q' = jI (fup l (4 * t + v) 0 q') := by
    intro q' hq'
    rw [← hz1]
    show (wI z 22 (4 * t + v) 0).1 22 q' = _
    by_cases c : q' = 4 * t + v
    · subst c; rw [zI_at, fup_at]; rfl
    · rw [zI_ne c, fup_ne c]
      have := (c22 q' hq').1
      rw [eB] at this; exact this
  have q23 : ∀ q', q' < 12 → z1.1 23 q' = jI (fup u (4 * t + v) 8 q') := by
    intro q' hq'
    rw [← hz1]
    by_cases c : q' = 4 * t + v
    · subst c; rw [zI_at, fup_at]; rfl
    · rw [zI_ne c, fup_ne c]
      have := (c22 q' hq').2
      rw [eB] at this; exact this
  have n20 : ∀ k, z1.1 20 k = z.1 20 k := fun k => by rw [← hz1]; rfl
  have n24 : ∀ k, z1.1 24 k = z.1 24 k := fun k => by rw [← hz1]; rfl
  have o17 : z1.1 17 0 = 0 := by rw [← hz1]; exact h17
  refine s_build_2 (A := mkB A (fup l (4 * t + v) 0) (fup u (4 * t + v) 8)) hWB (ok_fr (A := A) ⟨rfl, fun _ => rfl, fun _ => rfl⟩ hF1 oK) (ov_fr (A := A) (fun _ => rfl) hF1 oV) q22 q23 (pas_fr (fun _ => rfl) hF1 hP) o17 (fun z2 hF2 hT e17 e12 => ?_)
  have hF2' : Fz Sf zs z2 := fz_trans hF1 (fz_mono hF2 su_sf)
  have m22 : ∀ q', z2.1 22 q' = z1.1 22 q' ∧ z2.1 23 q' = z1.1 23 q' := fun q' => ⟨(hF2 22 q' rfl).1, (hF2 23 q' rfl).1⟩
  have m20 : ∀ k, z2.1 20 k = z.1 20 k := fun k => (hF2 20 k rfl).1.trans (n20 k)
  have m24 : ∀ k, z2.1 24 k = z.1 24 k := fun k => (hF2 24 k rfl).1.trans (n24 k)
  rcases hT with ⟨a, b⟩ | ⟨a, b, c⟩
  · rw [if_pos b] at ect
    refine ⟨Or.inr a, fun h => absurd (h.symm.trans a) (by decide), fun _ => ex1 (hQ _ ⟨fz_I hF2' rfl, e17, ?_, ?_, fun i hi => ?_, fun q' hq' => ?_⟩)⟩
    · rw [ect]; rfl
    · rw [ect]; exact (m20 4).trans c4
    · rw [ect] at hi ⊢; exact (m24 i).trans (c24 i hi)
    · rw [ect]; exact ⟨(m22 q').1.trans (q22 q' hq'), (m22 q').2.trans (q23 q' hq')⟩
  · rw [if_neg (by omega)] at ect
    have ecn := tab_0 hWB c
    have hcn := cn_le hWB
    have hle : (z2.2 14 (0 : Int32).toNatClampNeg ≤ 0) ↔ cnA (mkB A (fup l (4 * t + v) 0) (fup u (4 * t + v) 8)) = 0 := by
      rw [show z2.2 14 (0 : Int32).toNatClampNeg = jL (cnA (mkB A (fup l (4 * t + v) 0) (fup u (4 * t + v) 8))) from ecn, show (0 : Int64) = jL 0 from rfl, jL_le (by omega) (by decide)]
      omega
    refine ⟨Or.inl a, fun _ => ⟨by unfold vp_in; decide, fun h0 => hQ _ ?_, fun h0 => ?_⟩, fun h => absurd a h⟩
    · rw [if_pos (hle.mp h0)] at ect
      refine ⟨hF2', e17, ?_, ?_, fun i hi => ?_, fun q' hq' => ?_⟩
      · rw [ect, m20, c5, h1]
      · rw [ect]; exact (m20 4).trans c4
      · rw [ect] at hi ⊢; exact (m24 i).trans (c24 i hi)
      · rw [ect]; exact ⟨(m22 q').1.trans (q22 q' hq'), (m22 q').2.trans (q23 q' hq')⟩
    · rw [if_neg (fun h => h0 (hle.mpr h))] at ect
      have e7 : z2.1 7 (4 * t + v) = jI (lO A (4 * t + v)) := (hF2' 7 _ rfl).1.trans (oQ.1 _ hq)
      have e8 : z2.1 8 (4 * t + v) = jI (hI A (4 * t + v)) := (hF2' 8 _ rfl).1.trans (oQ.2 _ hq)
      unfold P_Q_copyOneFrom P_Q_set2
      rw [jI_tn (n := 4 * t + v) (by omega), e7, e8]
      refine ⟨vp_n hq (by decide), vp_n hq (by decide), vp_n hq (by decide), ex1 ⟨vp_n hq (by decide), ex1 ?_⟩⟩
      show vp_in ((wI (wI z2 22 (4 * t + v) (jI (lO A (4 * t + v)))) 23 (4 * t + v) (jI (hI A (4 * t + v)))).1 20 4) 12 ∧ _
      rw [show (wI (wI z2 22 (4 * t + v) (jI (lO A (4 * t + v)))) 23 (4 * t + v) (jI (hI A (4 * t + v)))).1 20 4 = jI (cl A (4 * t + v)).2.1 from (m20 4).trans c4, jI_tn (n := (cl A (4 * t + v)).2.1) (by omega), show (10 : Int32) = jI 10 from rfl, jI_mul, jI_add]
      refine ⟨vp_n (by omega) (by decide), ex1 (ex1 (hQ _ ⟨fz_I (fz_I (fz_I (fz_I hF2' rfl) rfl) rfl) rfl, e17, ?_, ?_, fun i hi => ?_, fun q' hq' => ⟨?_, ?_⟩⟩))⟩
      · rw [ect]; exact (m20 5).trans (by rw [c5, h1])
      · rw [ect]
        show z2.1 20 4 + 1 = jI ((cl A (4 * t + v)).2.1 + 1)
        rw [m20, c4, jI_s]
      · rw [ect] at hi ⊢
        have hi' : i < (cl A (4 * t + v)).2.1 + 1 := hi
        show (wI (wI (wI z2 22 (4 * t + v) (jI (lO A (4 * t + v)))) 23 (4 * t + v) (jI (hI A (4 * t + v)))) 24 (cl A (4 * t + v)).2.1 (jI (10 * t + v))).1 24 i = jI (fup (cl A (4 * t + v)).2.2.1 (cl A (4 * t + v)).2.1 (10 * t + v) i)
        by_cases c : i = (cl A (4 * t + v)).2.1
        · rw [c, zI_at, fup_at]
        · rw [zI_ne c, fup_ne c]; exact (m24 i).trans (c24 i (by omega))
      · rw [ect, eB]
        show (wI z2 22 (4 * t + v) (jI (lO A (4 * t + v)))).1 22 q' = jI (l q')
        by_cases c : q' = 4 * t + v
        · subst c; rw [zI_at, (k1 _ (Nat.le_refl _)).1]
        · rw [zI_ne c, (m22 q').1, q22 q' hq', fup_ne c]
      · rw [ect, eB]
        show (wI (wI z2 22 (4 * t + v) (jI (lO A (4 * t + v)))) 23 (4 * t + v) (jI (hI A (4 * t + v)))).1 23 q' = jI (u q')
        by_cases c : q' = 4 * t + v
        · subst c; rw [zI_at, (k1 _ (Nat.le_refl _)).2]
        · rw [zI_ne c]
          show z2.1 23 q' = _
          rw [(m22 q').2, q23 q' hq', fup_ne c]
theorem s_find {A : Ab} {zs : St} {Q : St → Prop} (hW : WF A) (oK : OK A zs) (oV : OV A zs) (oQ : OQ A zs) (hP : Pas (zs.1 18)) (h17 : zs.1 17 0 = 0) (hQ : ∀ z', CF A 12 zs z' → Q z') : P_C_find (jI (sZ A)) zs Q := by
  have l12 : ∀ (K : Int32 → St → Prop), (∀ z', CF A 0 zs z' → K (jI (sZ A)) z') → ∀ (d q : Nat) (z : St), q + d = 12 → Fz Sf zs z → z.1 17 0 = 0 → z.1 20 5 = 0 → z.1 20 4 = 0 → (∀ q', q' < q → z.1 22 q' = jI (lO A q') ∧ z.1 23 q' = jI (hI A q')) → L_C_find_12 K Q (d + 1) (jI (sZ A)) (jI q) z := by
    intro K hK d
    induction d with
    | zero =>
      intro q z hq hF e17 e5 e4 h22
      refine ⟨fun _ => hK z ⟨hF, e17, e5, e4, fun i hi => absurd hi (Nat.not_lt_zero i), fun q' hq' => h22 q' (by omega)⟩, fun h => absurd ?_ h⟩
      rw [show (12 : Int32) = jI 12 from rfl, jI_le (by decide) (by omega)]; omega
    | succ d ih =>
      intro q z hq hF e17 e5 e4 h22
      refine ⟨fun h => absurd h ?_, fun _ => ?_⟩
      · rw [show (12 : Int32) = jI 12 from rfl, jI_le (by decide) (by omega)]; omega
      have e7 : z.1 7 q = jI (lO A q) := (hF 7 _ rfl).1.trans (oQ.1 _ (by omega))
      have e8 : z.1 8 q = jI (hI A q) := (hF 8 _ rfl).1.trans (oQ.2 _ (by omega))
      unfold P_Q_copyOneFrom P_Q_set2
      rw [jI_tn (n := q) (by omega), e7, e8]
      refine ⟨vp_n (by omega) (by decide), vp_n (by omega) (by decide), vp_n (by omega) (by decide), ex1 ⟨vp_n (by omega) (by decide), ex1 (ex1 ?_)⟩⟩
      rw [jI_s]
      refine ih (q + 1) _ (by omega) (fz_I (fz_I hF rfl) rfl) e17 e5 e4 (fun q' hq' => ?_)
      by_cases c : q' = q
      · subst c; exact ⟨zI_at (z := z) (c := 22), zI_at (z := wI z 22 q' (jI (lO A q'))) (c := 23)⟩
      · exact ⟨(zI_ne (z := z) (c := 22) c).trans (h22 q' (by omega)).1, (zI_ne (z := wI z 22 q (jI (lO A q))) (c := 23) c).trans (h22 q' (by omega)).2⟩
  have l43 : ∀ (K : Int32 → Int32 → St → Prop) (t : Nat), t < 3 → (∀ z', CF A (4 * t + 4) zs z' → K (jI (sZ A)) (jI t) z') → ∀ (d v : Nat) (z : St), v + d = vS A t → CF A (4 * t + v) zs z → L_C_find_43 K Q (d + 1) (jI (sZ A)) (jI t) (jI v) z := by
    intro K t ht hK d
    have v4 := (hW.2.2.2.2.1 t ht).2
    induction d with
    | zero =>
      intro v z hv hC
      have oVz := ov_fr (fun _ => rfl) hC.1 oV
      have e := cl_skip (A := A) (t := t) (v := v) (by omega) (d := 4 - v) (by omega)
      rw [show 4 * t + v + (4 - v) = 4 * t + 4 by omega] at e
      refine ⟨vp_n ht (by decide), fun _ => hK z ?_, fun h => absurd ?_ h⟩
      · unfold CF at hC ⊢; rw [e]; exact hC
      · rw [jI_tn (by omega), oVz t ht, jI_le (by omega) (by omega)]; omega
    | succ d ih =>
      intro v z hv hC
      have oVz := ov_fr (fun _ => rfl) hC.1 oV
      have oQz := oq_fr ⟨fun _ => rfl, fun _ => rfl⟩ hC.1 oQ
      have hq : 4 * t + v < 12 := by omega
      have hlo := hW.2.2.2.2.2.1 _ hq
      refine ⟨vp_n ht (by decide), fun h => absurd h ?_, fun _ => ⟨fun h5 => hK z ?_, fun h5 => ?_⟩⟩
      · rw [jI_tn (by omega), oVz t ht, jI_le (by omega) (by omega)]; omega
      · have hr : (cl A (4 * t + v)).2.2.2 = true := by
          cases hb : (cl A (4 * t + v)).2.2.2 with
          | true => rfl
          | false => rw [hC.2.2.1, hb] at h5; exact absurd rfl h5
        have e := cl_rfs hr (d := 4 - v)
        rw [show 4 * t + v + (4 - v) = 4 * t + 4 by omega] at e
        unfold CF at hC ⊢; rw [e]; exact hC
      · have hr : (cl A (4 * t + v)).2.2.2 = false := by
          cases hb : (cl A (4 * t + v)).2.2.2 with
          | false => rfl
          | true => rw [hC.2.2.1, hb] at h5; exact absurd h5 (by decide)
        have step : ∀ z', CF A (4 * t + v + 1) zs z' → L_C_find_43 K Q (d + 1) (jI (sZ A)) (jI t) (jI v + 1) z' := fun z' h => by rw [jI_s]; exact ih (v + 1) z' (by omega) h
        have skip : lO A (4 * t + v) = 0 ∧ hI A (4 * t + v) = 8 → CF A (4 * t + v + 1) zs z := by
          intro h
          unfold CF at hC ⊢; rw [cl_out h]; exact hC
        unfold P_O_quotaOf P_Q_isLeftOut
        rw [show jI t * (4 : Int32) + jI v = jI (4 * t + v) by rw [show (4 : Int32) = jI 4 from rfl, jI_mul, jI_add, Nat.mul_comm]]
        show vp_in (jI (4 * t + v)) 12 ∧ _
        rw [jI_tn (n := 4 * t + v) (by omega), oQz.1 _ hq, oQz.2 _ hq]
        have go : ¬ (lO A (4 * t + v) = 0 ∧ hI A (4 * t + v) = 8) → P_C_tryWithout (jI t) (jI v) (jI (sZ A)) z (fun (z12 : St) => ∀ x13 : Int32, x13 = jI v + 1 → L_C_find_43 K Q (d + 1) (jI (sZ A)) (jI t) x13 z12) := fun h3 => s_try hW ht (by omega) oK oV oQ hP hC hr h3 (fun z' h => ex1 (p := fun y => L_C_find_43 K Q (d + 1) (jI (sZ A)) (jI t) y z') (step z' h))
        refine ⟨vp_n hq (by decide), fun hne => ⟨fun h => absurd rfl h, fun _ => go (fun h => hne (by rw [h.1]; rfl))⟩, fun he => ⟨vp_n hq (by decide), fun hne => ⟨fun h => absurd rfl h, fun _ => go (fun h => hne (by rw [h.2]; rfl))⟩, fun he2 => ⟨fun _ => ex1 (p := fun y => L_C_find_43 K Q (d + 1) (jI (sZ A)) (jI t) y z) (step z (skip ⟨?_, ?_⟩)), fun h => absurd h (by decide)⟩⟩⟩
        · rw [show (0 : Int32) = jI 0 from rfl, jI_eq (by omega) (by decide)] at he; exact he
        · rw [show (8 : Int32) = jI 8 from rfl, jI_eq (by omega) (by decide)] at he2; exact he2
  refine ex1 (ex1 ⟨_, l12 _ (fun z0 h0 => ?_) 12 0 _ (by omega) (fz_I (fz_I fz_rfl rfl) rfl) h17 rfl rfl (fun q' hq' => absurd hq' (Nat.not_lt_zero q'))⟩)
  refine ⟨4, fun e => absurd e (by decide), fun _ => ⟨_, l43 _ 0 (by decide) (fun z1 h1 => ex1 ?_) (vS A 0) 0 z0 (by omega) h0⟩⟩
  refine ⟨fun e => absurd e (by decide), fun _ => ⟨_, l43 _ 1 (by decide) (fun z2 h2 => ex1 ?_) (vS A 1) 0 z1 (by omega) h1⟩⟩
  refine ⟨fun e => absurd e (by decide), fun _ => ⟨_, l43 _ 2 (by decide) (fun z3 h3 => ex1 ?_) (vS A 2) 0 z2 (by omega) h2⟩⟩
  exact ⟨fun _ => hQ z3 h3, fun e => absurd (by decide) e⟩
