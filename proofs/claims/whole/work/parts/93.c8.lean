/-! The case: replace. -/
theorem c_replace {x1 x2 x3 x4 v4 : Int32} {z : St} {K : St → Prop} (hI : Inv z) (hK : ∀ z', Inv z' → K z') : B_19 x1 x2 x3 x4 v4 z K := by
  obtain ⟨A, se, sM, gM, h⟩ := id hI
  have hW := h.1.1
  have i8 := hW.2.2.2.2.2.2.2
  have h40 := hW.1
  obtain ⟨⟨oK, oP, oV, oQ, oS⟩, rK, rP, rV, rQ, rS⟩ := id h.1.2.1
  have er : J_M_replace_28 (fun (y111 : Int32) (z110 : St) => P_M_thrown z110 (fun (y113 : Int32) (z112 : St) => ((y113 = 1) → ((¬ (1 : Int32) = 0) → K z112) ∧ (((1 : Int32) = 0) → vp_in (0 : Int32) 1 ∧ (((z112.2 49 (0 : Int32).toNatClampNeg) = y111.toInt64) → K z112) ∧ ((¬ (z112.2 49 (0 : Int32).toNatClampNeg) = y111.toInt64) → False))) ∧ ((¬ y113 = 1) → False))) 1 z := ex1 ⟨fun h => absurd h n1_0, fun _ => law_same (hK _ (inv_e hI)) rfl (fun h => absurd h (by decide))⟩
  rcases id h.1.2.2.2.2 with ⟨d5, d6, d7, d8, d19, d21, d45⟩ | ⟨d19, dle, dST, dMS, dE⟩
  · have e8 : z.1 26 8 < 0 := by rw [d8]; decide
    exact ⟨fun _ => ⟨fun h => absurd rfl h, fun _ => ⟨rfl, fun _ => er, fun h => absurd d19 h⟩⟩, fun h => absurd e8 h⟩
  · have n19 : ¬ z.1 31 19 = 0 := by rw [d19]; decide
    rcases dE with ⟨d8, d21⟩ | ⟨e, he, d8, d21, dse⟩
    · have e8 : z.1 26 8 < 0 := by rw [d8]; decide
      exact ⟨fun _ => ⟨fun h => absurd rfl h, fun _ => ⟨rfl, fun h => absurd h n19, fun _ => ⟨fun _ => er, fun h => absurd d21 h⟩⟩⟩, fun h => absurd e8 h⟩
    · have n268 : ¬ z.1 26 8 < 0 := by rw [d8]; exact jI_nn (by omega)
      have n21 : ¬ z.1 31 21 = -1 := by rw [d21]; exact jI_m1 (by omega)
      have no : z.1 31 29 = 0 → P_M_replace z (fun (y111 : Int32) (z110 : St) => P_M_thrown z110 (fun (y113 : Int32) (z112 : St) => ((y113 = 1) → ((¬ (1 : Int32) = 0) → K z112) ∧ (((1 : Int32) = 0) → vp_in (0 : Int32) 1 ∧ (((z112.2 49 (0 : Int32).toNatClampNeg) = y111.toInt64) → K z112) ∧ ((¬ (z112.2 49 (0 : Int32).toNatClampNeg) = y111.toInt64) → False))) ∧ ((¬ y113 = 1) → False))) := fun e29 => ⟨fun h => absurd h n19, fun _ => ⟨fun h => absurd h n21, fun _ => ⟨fun h => absurd e29 h, fun _ => er⟩⟩⟩
      refine ⟨fun h => absurd h n268, fun _ => ⟨fun _ => ?_, fun h => absurd h (by decide)⟩⟩
      rcases id h.2.2.1 with ⟨_, e1, _, e29⟩ | ⟨s, g, n, hd, hg⟩
      · exact ⟨Or.inl e1, fun h => absurd e1 h, fun _ => ⟨rfl, no e29⟩⟩
      · obtain ⟨a0, a1, a2, a3, a4, a5, a6, a7, a8, a9, a10, a11, a12, a13, a14, a15⟩ := id hd
        rcases a15 with ⟨c1, c2, _⟩ | ⟨c1, c2, v, hv, c7, c30⟩
        · exact ⟨Or.inl c1, fun h => absurd c1 h, fun _ => ⟨rfl, no c2⟩⟩
        · rcases hg with ⟨a, _⟩ | ⟨_, _, gg⟩
          · exact absurd a n19
          · have hca := cA_le A se sM gM
            have hvc : v < cA A se sM gM := by omega
            obtain ⟨il, iel⟩ := iA_lt hvc
            obtain ⟨m6, m7, ms, mg, mse, mgo⟩ := id dMS
            refine ⟨Or.inr c1, fun _ => ?_, fun h => absurd (h.symm.trans c1) (by decide)⟩
            refine s_cands hW oP oV oQ dST dMS n268 (fun z1 hF1 hc => ex1 ?_)
            have eix : (mmaxL (0 : Int64) (mminL (z.2 25 7) (jI (cA A se sM gM) - 1).toInt64)).toInt32 = jI v := by
              rw [c7, jI_p (by omega), jI_toL (by omega)]
              have e1 : mminL (jL v) (jL (cA A se sM gM - 1)) = jL v := by
                unfold mminL
                rw [if_neg]
                rw [jL_lt (by omega) (by omega)]; omega
              have e2 : mmaxL (0 : Int64) (jL v) = jL v := by
                unfold mmaxL
                rw [if_neg]
                rw [show (0 : Int64) = jL 0 from rfl, jL_lt (by omega) (by decide)]; omega
              rw [e1, e2, jL_toI]
            rw [eix]
            have e29 : z1.1 29 (jI v).toNatClampNeg = jI (iA A se sM gM v) := by rw [jI_tn (by omega)]; exact hc v hvc
            rw [e29]
            refine ⟨vp_n (by omega) (by decide), ex1 ?_⟩
            rw [show z1.1 26 8 = jI e from (hF1 26 8 rfl).1.trans d8, jI_tn (n := e) (by omega)]
            refine ⟨vp_n (by omega) (by decide), ex1 (ex1 (ex1 (ex1 (ex1 ⟨vp_0, ex1 ?_⟩))))⟩
            rw [show (wI z1 27 e (jI (iA A se sM gM v))).2 26 6 = jL sM from (hF1 26 6 rfl).2.trans m6, sh_63 _ (by omega), sh_1 _ (by omega), jL_or]
            generalize hz2 : wL (wI (wI (wI (wL (wI z1 27 e (jI (iA A se sM gM v))) 26 6 (jL (sM ||| 2 ^ iA A se sM gM v))) 26 8 (-1)) 25 0 0) 25 1 0) 49 (0 : Int32).toNatClampNeg (jI (iA A se sM gM v)).toInt64 = z2
            have hF2 : Fz Sdo z z2 := by
              rw [← hz2]
              refine fz_L (fz_I (fz_I (fz_I (fz_L (fz_I (fz_mono hF1 (fun c k ee => ?_)) rfl) rfl) rfl) rfl) rfl) rfl
              simp only [Bool.or_eq_false_iff, Bool.and_eq_false_iff, beq_eq_false_iff_ne] at ee ⊢
              exact ⟨ee.2.2.2.1, ee.2.2.2.2.1⟩
            have ck : ∀ c k, c ≠ 25 → c ≠ 26 → c ≠ 27 → c ≠ 28 → c ≠ 29 → c ≠ 49 → z2.1 c k = z.1 c k ∧ z2.2 c k = z.2 c k := by
              intro c k h25 h26 h27 h28 h29 h49
              have hs : S289 c k = false := by
                simp only [Bool.or_eq_false_iff, beq_eq_false_iff_ne]; exact ⟨h28, h29⟩
              rw [← hz2]
              refine ⟨Eq.trans ?_ (hF1 c k hs).1, Eq.trans ?_ (hF1 c k hs).2⟩
              · show (if c = 25 then _ else (if c = 25 then _ else (if c = 26 then _ else (if c = 27 then _ else _)))) = _
                rw [if_neg h25, if_neg h25, if_neg h26, if_neg h27]
              · show (if c = 49 then _ else (if c = 26 then _ else _)) = _
                rw [if_neg h49, if_neg h26]; rfl
            have n : (25 : Nat) ≠ 26 := by decide
            have ck31 : ∀ k, z2.1 31 k = z.1 31 k ∧ z2.2 31 k = z.2 31 k := fun k => ck 31 k (by decide) (by decide) (by decide) (by decide) (by decide) (by decide)
            have o49 : z2.2 49 0 = (jI (iA A se sM gM v)).toInt64 := by rw [← hz2]; rfl
            have sei : iA A se sM gM v < aN A := il
            have r0 : ∀ c k, c = 32 ∨ c = 34 ∨ c = 35 ∨ c = 36 ∨ c = 44 ∨ c = 45 → (wI z2 31 0 0).1 c k = z.1 c k := by
              intro c k hc
              have e1 : (wI z2 31 0 0).1 c k = z2.1 c k := by
                show (if c = 31 then _ else _) = _
                rw [if_neg (by omega)]
              exact e1.trans (ck c k (by omega) (by omega) (by omega) (by omega) (by omega) (by omega)).1
            have rst : RST A se sM gM (wI z2 31 0 0) := ⟨⟨(ck31 1).1.trans rP.1, fun p hp t ht => (r0 32 _ (by decide)).trans (rP.2 p hp t ht)⟩, fun t ht => (r0 34 t (by decide)).trans (rV t ht), ⟨fun q hq => (r0 35 q (by decide)).trans (rQ.1 q hq), fun q hq => (r0 36 q (by decide)).trans (rQ.2 q hq)⟩, (ck31 7).1.trans rS, ⟨fun i hi => (r0 44 i (by decide)).trans (dST.2.1 i hi).2, dST.2.2⟩, mse, fun p hp => (r0 45 p (by decide)).trans (mgo p hp)⟩
            have n29 : ¬ z2.1 31 29 = 0 := by rw [(ck31 29).1, c2]; decide
            have n19' : ¬ z2.1 31 19 = 0 := by rw [(ck31 19).1]; exact n19
            have n21' : ¬ z2.1 31 21 = -1 := by rw [(ck31 21).1]; exact n21
            refine ⟨fun h => absurd h n19', fun _ => ⟨fun h => absurd h n21', fun _ => ⟨fun _ => ex1 ⟨fun _ => ?_, fun h => absurd (show (0 : Int32) ≤ 0 by decide) h⟩, fun h => absurd h n29⟩⟩⟩
            rw [show (wI z2 31 0 0).2 31 30 = jL v from (ck31 30).2.trans c30]
            refine m_candAt hW rst (by omega) (fun _ => ?_) (fun h => absurd hvc h)
            rw [show (wI z2 31 0 0).1 31 21 = jI e from (ck31 21).1.trans d21, jI_tn (n := e) (by omega)]
            refine ⟨vp_n (by omega) (by decide), ex1 (ex1 (ex1 (ex1 ?_)))⟩
            have sl : sM ||| 2 ^ iA A se sM gM v < 2 ^ 40 := or_lt ms (Nat.pow_lt_pow_right (by decide) (by omega))
            have nos : ∀ i, i < sZ A → se i ≠ iA A se sM gM v + 1 := by
              intro i hi ee
              have hb := (mse _ sei).mpr ⟨i, hi, ee⟩
              unfold elg at iel
              rw [Nat.testBit_or, hb] at iel
              exact absurd iel (by simp)
            refine law_same (hK _ (inv_seat (se' := fup se e (iA A se sM gM v + 1)) (sM' := sM ||| 2 ^ iA A se sM gM v) (gM' := gM) h (fz_I (fz_I (fz_I (fz_I (fz_I hF2 rfl) rfl) rfl) rfl) rfl) (Or.inr ⟨?_, dle, ⟨?_, fun i hi => ⟨?_, ?_⟩, fun i hi => ?_, fun i i' hi hi' ee h0 => ?_⟩, ⟨?_, ?_, sl, mg, fun p hp => ?_, fun p hp => ?_⟩, Or.inl ⟨?_, rfl⟩⟩) ⟨?_, ?_, rfl, rfl⟩)) rfl (fun _ => o49)
            · exact (ck31 19).1.trans d19
            · show z2.1 26 5 = _
              rw [← hz2]; exact (hF1 26 5 rfl).1.trans dST.1
            · show z2.1 27 i = _
              rw [← hz2]
              show (wI z1 27 e (jI (iA A se sM gM v))).1 27 i = _
              by_cases c : i = e
              · subst c; rw [zI_at, fup_at]; rfl
              · rw [zI_ne c, fup_ne c]; exact (hF1 27 i rfl).1.trans (dST.2.1 i hi).1
            · show (wI (wI z2 31 0 0) 44 e (jI (iA A se sM gM v))).1 44 i = _
              by_cases c : i = e
              · subst c; rw [zI_at, fup_at]; rfl
              · rw [zI_ne c, fup_ne c]; exact (r0 44 i (by decide)).trans (dST.2.1 i hi).2
            · by_cases c : i = e
              · subst c; rw [fup_at]; omega
              · rw [fup_ne c]; exact dST.2.2.1 i hi
            · by_cases c : i = e
              · by_cases c' : i' = e
                · omega
                · rw [c, fup_at, fup_ne c'] at ee
                  exact absurd ee.symm (nos i' hi')
              · by_cases c' : i' = e
                · rw [c', fup_at, fup_ne c] at ee
                  exact absurd ee (nos i hi)
                · rw [fup_ne c] at ee h0
                  rw [fup_ne c'] at ee
                  exact dST.2.2.2 i i' hi hi' ee h0
            · show z2.2 26 6 = _
              rw [← hz2]; rfl
            · show z2.2 26 7 = _
              rw [← hz2]; exact (hF1 26 7 rfl).2.trans m7
            · rw [Nat.testBit_or, Nat.testBit_two_pow, Bool.or_eq_true, decide_eq_true_iff, mse p hp]
              constructor
              · rintro (⟨i, hi, ei⟩ | ei)
                · refine ⟨i, hi, ?_⟩
                  rw [fup_ne (fun ci => by rw [ci, dse] at ei; omega)]; exact ei
                · exact ⟨e, he, by rw [fup_at, ei]⟩
              · rintro ⟨i, hi, ei⟩
                by_cases ci : i = e
                · rw [ci, fup_at] at ei
                  exact Or.inr (Nat.succ.inj ei)
                · rw [fup_ne ci] at ei
                  exact Or.inl ⟨i, hi, ei⟩
            · exact (r0 45 p (by decide)).trans (mgo p hp)
            · show z2.1 26 8 = _
              rw [← hz2]; rfl
            · show z2.1 25 0 = _
              rw [← hz2]; rfl
            · show z2.1 25 1 = _
              rw [← hz2]; rfl
