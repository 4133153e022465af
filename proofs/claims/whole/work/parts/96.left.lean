/-! The pure side: which quotas clash, by the reference. -/
def rsA (A : Ab) (q i : Nat) : Int32 := if i < (cl A q).2.1 then jI ((cl A q).2.2.1 i) else -1
def r2 (b : Bool) : Int32 := if b = true then 2 else 0
abbrev Slf : Nat → Nat → Bool := fun c k => c == 35 || (c == 36 || ((c == 31 && k == 0) || Sw c k))
theorem sw_slf (c k : Nat) (e : Slf c k = false) : Sw c k = false := by
  rw [Bool.or_eq_false_iff, Bool.or_eq_false_iff, Bool.or_eq_false_iff] at e; exact e.2.2.2
def LF (A : Ab) (q : Nat) (zs z : St) : Prop := Fz Slf zs z ∧ z.1 31 0 = r2 (cl A q).2.2.2 ∧ ∀ q', q' < 12 → z.1 35 q' = jI (lO (cl A q).1 q') ∧ z.1 36 q' = jI (hI (cl A q).1 q')
theorem lf_eq {A : Ab} {q q' : Nat} {zs z : St} (e : cl A q' = cl A q) (h : LF A q zs z) : LF A q' zs z := by unfold LF at h ⊢; rw [e]; exact h
theorem rs_eq {A : Ab} {q q' i : Nat} (e : cl A q' = cl A q) : rsA A q' i = rsA A q i := by unfold rsA; rw [e]
theorem q4_div {q : Nat} (h : q < 12) : jI q / (4 : Int32) = jI (q / 4) := by rw [show (4 : Int32) = jI 4 from rfl, jI_div (by omega) (by decide)]
theorem q4_mod {q : Nat} (h : q < 12) : jI q - jI q / (4 : Int32) * (4 : Int32) = jI (q % 4) := by
  rw [q4_div h, show (4 : Int32) = jI 4 from rfl, jI_mul, jI_sub (by omega), show q - q / 4 * 4 = q % 4 by omega]
theorem m_left {A : Ab} {i : Nat} {zs : St} {Q : Int32 → St → Prop} (hW : WF A) (hi : i < 2147483648) (rM : RM A zs) (e0 : zs.1 31 0 = 0) (hQ : ∀ z', LF A 12 zs z' → Q (rsA A 12 i) z') : P_M_left (jI i) zs Q := by
  have h16 := hW.2.1
  have loop : ∀ (d q : Nat) (z : St), q + d = 12 → LF A q zs z → L_M_left_7 Q (d + 1) (jI i) (rsA A q i) (jI (cl A q).2.1) (jI q) z := by
    intro d
    induction d with
    | zero =>
      intro q z hq hL
      have : q = 12 := by omega
      subst this
      exact ⟨fun _ => hQ z hL, fun h => absurd (by decide) h⟩
    | succ d ih =>
      intro q z hq hL
      have hq12 : q < 12 := by omega
      obtain ⟨hF, h0, h35⟩ := id hL
      obtain ⟨l, u, eB, k1, k2, k3⟩ := cl_inv hW q
      have hv4 := (hW.2.2.2.2.1 (q / 4) (by omega)).2
      have hlo := hW.2.2.2.2.2.1 q hq12
      have rV : z.1 34 (q / 4) = jI (vS A (q / 4)) := (hF 34 _ rfl).1.trans (rM.2.1 _ (by omega))
      have e35 : z.1 35 q = jI (lO A q) := by rw [(h35 q hq12).1, eB, ← (k1 q (Nat.le_refl _)).1]; rfl
      have e36 : z.1 36 q = jI (hI A q) := by rw [(h35 q hq12).2, eB, ← (k1 q (Nat.le_refl _)).2]; rfl
      refine ⟨fun h => absurd h ?_, fun _ => ⟨fun hr => ?_, fun hr => ?_⟩⟩
      · rw [show (12 : Int32) = jI 12 from rfl, jI_le (by decide) (by omega)]; omega
      · have hrf : (cl A q).2.2.2 = true := by
          cases hb : (cl A q).2.2.2 with
          | true => rfl
          | false => rw [h0, hb] at hr; exact absurd rfl hr
        have e := cl_rfs hrf (d := 12 - q)
        rw [show q + (12 - q) = 12 by omega] at e
        have hq' := hQ z (lf_eq e hL)
        rw [rs_eq e] at hq'; exact hq'
      · have hrf : (cl A q).2.2.2 = false := by
          cases hb : (cl A q).2.2.2 with
          | false => rfl
          | true => rw [h0, hb] at hr; exact absurd hr (by decide)
        have same : cl A (q + 1) = cl A q → ∀ x : Int32, x = jI q + 1 → L_M_left_7 Q (d + 1) (jI i) (rsA A q i) (jI (cl A q).2.1) x z := by
          intro e
          have := ih (q + 1) z (by omega) (lf_eq e hL)
          rw [rs_eq e, e] at this
          refine ex1 (p := fun y => L_M_left_7 Q (d + 1) (jI i) (rsA A q i) (jI (cl A q).2.1) y z) ?_
          rw [jI_s]; exact this
        rw [q4_div hq12, ← q4_div hq12, q4_mod hq12, q4_div hq12, jI_tn (n := q / 4) (by omega), rV, jI_le (by omega) (by omega)]
        refine ⟨vp_n (by omega) (by decide), fun hv => same (cl_v hv), fun hv => ⟨vp_n hq12 (by decide), ?_⟩⟩
        have go : ¬ (lO A q = 0 ∧ hI A q = 8) → J_M_left_62 (L_M_left_7 Q (d + 1)) Q (jI i) (rsA A q i) (jI (cl A q).2.1) (jI q) z := by
          intro h3
          have ect := cl_try hrf hv h3
          have eL : lv (cl A q).1 q = mkB A (fup l q 0) (fup u q 8) := by rw [eB]; rfl
          rw [eL] at ect
          have lu : ∀ q', q' < 12 → fup l q 0 q' ≤ fup u q 8 q' ∧ fup u q 8 q' ≤ 8 := by
            intro q' hq'
            by_cases c : q' = q
            · subst c; rw [fup_at, fup_at]; omega
            · rw [fup_ne c, fup_ne c]; exact k2 q' hq'
          have hWB := wf_mkB hW lu
          unfold J_M_left_62
          rw [jI_tn (n := q) (by omega), e35, e36]
          refine ⟨vp_n hq12 (by decide), ex1 ⟨vp_n hq12 (by decide), ex1 ⟨vp_n hq12 (by decide), ex1 ⟨vp_n hq12 (by decide), ex1 ?_⟩⟩⟩⟩
          generalize hz1 : wI (wI z 35 q 0) 36 q 8 = z1
          have hF1 : Fz Slf zs z1 := by rw [← hz1]; exact fz_I (fz_I hF rfl) rfl
          have q35 : ∀ q', q' < 12 → z1.1 35 q' = jI (fup l q 0 q') := by
            intro q' hq'
            rw [← hz1]
            show (wI z 35 q 0).1 35 q' = _
            by_cases c : q' = q
            · subst c; rw [zI_at, fup_at]; rfl
            · rw [zI_ne c, fup_ne c]
              have := (h35 q' hq').1
              rw [eB] at this; exact this
          have q36 : ∀ q', q' < 12 → z1.1 36 q' = jI (fup u q 8 q') := by
            intro q' hq'
            rw [← hz1]
            by_cases c : q' = q
            · subst c; rw [zI_at, fup_at]; rfl
            · rw [zI_ne c, fup_ne c]
              have := (h35 q' hq').2
              rw [eB] at this; exact this
          have n0 : z1.1 31 0 = z.1 31 0 := by rw [← hz1]; rfl
          have rMB : RM (mkB A (fup l q 0) (fup u q 8)) z1 := ⟨rk_fr (A := A) ⟨rfl, fun _ => rfl, fun _ => rfl⟩ hF1 rM.1, rv_fr (A := A) (fun _ => rfl) hF1 rM.2.1, ⟨q35, q36⟩, (hF1 31 7 rfl).1.trans rM.2.2.2⟩
          refine m_work (A := mkB A (fup l q 0) (fup u q 8)) hWB kd99 rMB (fun hle z2 hF2 hR hA => ⟨fun _ => ⟨by unfold vp_in; decide, ?_⟩, fun h => absurd hR.1.2.1 h⟩) (fun hgt z2 hF2 h12 => ⟨fun h => absurd (h.symm.trans h12) (by decide), fun _ => ex1 ?_⟩)
          · rw [if_neg (by omega)] at ect
            have hF2' : Fz Slf zs z2 := fz_trans hF1 (fz_mono hF2 sw_slf)
            have e41 : z2.2 41 (0 : Int32).toNatClampNeg = jL (cnA (mkB A (fup l q 0) (fup u q 8))) := rab_0 hWB ⟨hR, hA⟩
            have hcn := cn_le hWB
            have hle0 : (z2.2 41 (0 : Int32).toNatClampNeg ≤ 0) ↔ cnA (mkB A (fup l q 0) (fup u q 8)) = 0 := by
              rw [e41, show (0 : Int64) = jL 0 from rfl, jL_le (by omega) (by decide)]; omega
            have m35 : ∀ q', z2.1 35 q' = z1.1 35 q' ∧ z2.1 36 q' = z1.1 36 q' := fun q' => ⟨(hF2 35 q' rfl).1, (hF2 36 q' rfl).1⟩
            have m0 : z2.1 31 0 = z.1 31 0 := (hF2 31 0 rfl).1.trans n0
            refine ⟨fun hz => ex1 ?_, fun hz => ?_⟩
            · rw [if_pos (hle0.mp hz)] at ect
              have hL2 : LF A (q + 1) zs z2 := by
                refine ⟨hF2', by rw [m0, h0, ect, hrf], fun q' hq' => ?_⟩
                rw [ect]; exact ⟨(m35 q').1.trans (q35 q' hq'), (m35 q').2.trans (q36 q' hq')⟩
              have := ih (q + 1) z2 (by omega) hL2
              have er : rsA A (q + 1) i = rsA A q i := by unfold rsA; rw [ect]
              rw [er] at this
              have en : (cl A (q + 1)).2.1 = (cl A q).2.1 := by rw [ect]
              rw [en] at this
              rw [jI_s]; exact this
            · rw [if_neg (fun h => hz (hle0.mpr h))] at ect
              refine ⟨vp_n hq12 (by decide), ex1 ⟨vp_n hq12 (by decide), ex1 ?_⟩⟩
              have hL2 : LF A (q + 1) zs (wI (wI z2 35 q (jI (lO A q))) 36 q (jI (hI A q))) := by
                refine ⟨fz_I (fz_I hF2' rfl) rfl, by rw [ect]; exact m0.trans (by rw [h0, hrf]), fun q' hq' => ?_⟩
                rw [ect, eB]
                by_cases c : q' = q
                · subst c
                  exact ⟨(zI_at (z := z2) (c := 35)).trans (by rw [← (k1 q' (Nat.le_refl _)).1]; rfl), (zI_at (z := wI z2 35 q' (jI (lO A q'))) (c := 36)).trans (by rw [← (k1 q' (Nat.le_refl _)).2]; rfl)⟩
                · refine ⟨(zI_ne (z := z2) (c := 35) c).trans ?_, (zI_ne (z := wI z2 35 q (jI (lO A q))) (c := 36) c).trans ?_⟩
                  · rw [(m35 q').1, q35 q' hq', fup_ne c]; rfl
                  · show z2.1 36 q' = _
                    rw [(m35 q').2, q36 q' hq', fup_ne c]; rfl
              have := ih (q + 1) _ (by omega) hL2
              have en : (cl A (q + 1)).2.1 = (cl A q).2.1 + 1 := by rw [ect]
              have ef : (cl A (q + 1)).2.2.1 = fup (cl A q).2.2.1 (cl A q).2.1 (10 * (q / 4) + q % 4) := by rw [ect]
              rw [en] at this
              rw [jI_eq (by omega) hi]
              refine ⟨fun hne => ex1 (ex1 ?_), fun he => ex1 (ex1 (ex1 ?_))⟩
              · have er : rsA A (q + 1) i = rsA A q i := by
                  unfold rsA
                  rw [en, ef]
                  by_cases c : i < (cl A q).2.1
                  · rw [if_pos c, if_pos (by omega), fup_ne (by omega)]
                  · rw [if_neg c, if_neg (by omega)]
                rw [er] at this
                rw [jI_s, jI_s]; exact this
              · have er : rsA A (q + 1) i = jI (10 * (q / 4) + q % 4) := by
                  unfold rsA
                  rw [en, ef, if_pos (by omega), ← he, fup_at]
                rw [er] at this
                rw [q4_mod hq12, q4_div hq12, show (10 : Int32) = jI 10 from rfl, jI_mul, jI_add, jI_s, jI_s]; exact this
          · rw [if_pos hgt] at ect
            have hF2' : Fz Slf zs z2 := fz_trans hF1 (fz_mono hF2 sw_slf)
            have hL2 : LF A (q + 1) zs (wI z2 31 0 2) := by
              refine ⟨fz_I hF2' rfl, by rw [ect]; rfl, fun q' hq' => ?_⟩
              rw [ect]; exact ⟨(hF2 35 q' rfl).1.trans (q35 q' hq'), (hF2 36 q' rfl).1.trans (q36 q' hq')⟩
            have := ih (q + 1) _ (by omega) hL2
            have er : rsA A (q + 1) i = rsA A q i := by unfold rsA; rw [ect]
            have en : (cl A (q + 1)).2.1 = (cl A q).2.1 := by rw [ect]
            rw [er, en] at this
            refine ex1 ?_
            rw [jI_s]; exact this
        rw [jI_tn (n := q) (by omega), e35, e36]
        refine ⟨fun hne => go (fun h => hne (by rw [h.1]; rfl)), fun he => ⟨vp_n hq12 (by decide), fun hne => go (fun h => hne (by rw [h.2]; rfl)), fun he2 => same (cl_out ⟨?_, ?_⟩)⟩⟩
        · rw [show (0 : Int32) = jI 0 from rfl, jI_eq (by omega) (by decide)] at he; exact he
        · rw [show (8 : Int32) = jI 8 from rfl, jI_eq (by omega) (by decide)] at he2; exact he2
  refine ⟨_, loop 12 0 zs (by omega) ⟨fz_rfl, e0, fun q' hq' => ⟨rM.2.2.1.1 q' hq', rM.2.2.1.2 q' hq'⟩⟩⟩
