/-! The cases: kind, mark, member, number, roll. -/
theorem s_kindOf {A : Ab} {p : Nat} {z : St} {Q : Int32 → St → Prop} (hW : WF A) (oK : OK A z) (oP : OP A z) (hp : p < aN A) (h : ∀ k, k < kN A → kC A k = aC A p → Q (jI k) z) : P_P_kindOf (jI p) z Q := by
  have h16 := hW.2.1
  have h40 := hW.1
  obtain ⟨k0, hk0, e0⟩ := hW.2.2.1.2.2 p hp
  unfold P_P_kindOf
  rw [jI_tn (by omega), oP.2 p hp]
  refine ⟨vp_n (by omega) (by decide), s_kindsBelow h16 hW.2.2.1 oK (hW.2.2.2.1 p hp).1 (fun k hk hb ha => ?_)⟩
  have : k = k0 := by
    by_cases c1 : k0 < k
    · have := hb k0 c1; omega
    · by_cases c2 : k = k0
      · exact c2
      · have h1 := ha (by omega)
        have h2 := hW.2.2.1.1 k k0 (by omega) hk0
        omega
  subst this
  exact h k hk0 e0
theorem c_kind {x1 x2 x3 x4 v4 : Int32} {z : St} {K : St → Prop} (hI : Inv z) (hK : ∀ z', Inv z' → K z') : B_7 x1 x2 x3 x4 v4 z K := by
  obtain ⟨A, se, sM, gM, h⟩ := id hI
  have hW := h.1.1
  obtain ⟨⟨oK, oP, oV, oQ, oS⟩, rK, rP, rV, rQ, rS⟩ := id h.1.2.1
  have h16 := hW.2.1
  have h40 := hW.1
  have ok : ∀ v, Inv (wI (wL z 49 (0 : Int32).toNatClampNeg v) 31 0 0) := fun v => inv_fr (fz_I (fz_L fz_rfl rfl) rfl) hI
  have e1 : J_M_kind_19 (fun (y41 : Int32) (z40 : St) => P_M_thrown z40 (fun (y43 : Int32) (z42 : St) => ((y43 = 1) → ((¬ (1 : Int32) = 0) → K z42) ∧ (((1 : Int32) = 0) → vp_in (0 : Int32) 1 ∧ (((z42.2 49 (0 : Int32).toNatClampNeg) = y41.toInt64) → K z42) ∧ ((¬ (z42.2 49 (0 : Int32).toNatClampNeg) = y41.toInt64) → False))) ∧ ((¬ y43 = 1) → False))) x1 1 z := ex1 ⟨fun h => absurd h n1_0, fun _ => law_same (hK _ (inv_e hI)) rfl (fun h => absurd h (by decide))⟩
  refine ⟨fun hne => ⟨fun a => ⟨rfl, fun e => absurd e hne, fun _ => ⟨fun _ => ⟨fun _ => e1, fun h => absurd rfl h⟩, fun b => absurd a b⟩⟩, fun a => ⟨fun b => ?_, fun b => ⟨rfl, fun e => absurd e hne, fun _ => ⟨fun c => absurd c a, fun _ => ⟨fun _ => ⟨fun _ => e1, fun h => absurd rfl h⟩, fun c => absurd ?_ b⟩⟩⟩⟩⟩, fun he => ⟨vp_0, ex1 ⟨fun _ => ex1 ⟨fun _ => ⟨fun h => absurd he h, fun _ => ?_⟩, fun h => absurd (show (0 : Int32) ≤ 0 by decide) h⟩, fun h => absurd he h⟩⟩⟩
  · obtain ⟨p, hp, rfl⟩ := i32_nn a
    have hpa : p < aN A := by rw [oP.1, jI_lt hp (by omega)] at b; exact b
    refine s_kindOf hW oK oP hpa (fun k hk ek => ⟨vp_0, ex1 ⟨fun e => absurd e hne, fun _ => ⟨fun c => absurd c a, fun _ => ⟨fun c => absurd c ?_, fun _ => ⟨fun h => absurd h (by decide), fun _ => ex1 ⟨fun _ => ⟨fun _ => ?_, fun e => absurd e hne⟩, fun h => absurd (show (0 : Int32) ≤ 0 by decide) h⟩⟩⟩⟩⟩⟩)
    · show ¬ z.1 31 1 ≤ jI p
      rw [rP.1, jI_le (by omega) hp]; omega
    · refine m_kindOf (z := wI (wL z 49 (0 : Int32).toNatClampNeg (jI k).toInt64) 31 0 0) hW rK rP hpa (fun k' hk' ek' => ?_)
      have : k' = k := kc_inj hW hk' hk (ek'.trans ek.symm)
      subst this
      exact law_same (hK _ (ok _)) rfl (fun _ => rfl)
  · obtain ⟨p, hp, rfl⟩ := i32_nn a
    rw [rP.1, jI_le (by omega) hp] at c
    rw [oP.1, jI_lt hp (by omega)]; omega
  · refine law_same (hK _ (ok _)) rfl (fun _ => ?_)
    show (z.1 1 5).toInt64 = (z.1 31 8).toInt64
    rw [oK.1, rK.1]
theorem c_mark {x1 x2 x3 x4 v4 : Int32} {z : St} {K : St → Prop} (hI : Inv z) (hK : ∀ z', Inv z' → K z') : B_10 x1 x2 x3 x4 v4 z K := by
  obtain ⟨A, se, sM, gM, h⟩ := id hI
  have hW := h.1.1
  obtain ⟨⟨oK, oP, oV, oQ, oS⟩, rK, rP, rV, rQ, rS⟩ := id h.1.2.1
  have h40 := hW.1
  have e1 : J_M_mark_14 (fun (y59 : Int32) (z58 : St) => P_M_thrown z58 (fun (y61 : Int32) (z60 : St) => ((y61 = 1) → ((¬ (1 : Int32) = 0) → K z60) ∧ (((1 : Int32) = 0) → vp_in (0 : Int32) 1 ∧ ((y59 = 0) → J_law_753 K v4 (0 : Int64) (z60.2 49 (0 : Int32).toNatClampNeg) z60) ∧ ((¬ y59 = 0) → J_law_753 K v4 (1 : Int64) (z60.2 49 (0 : Int32).toNatClampNeg) z60))) ∧ ((¬ y61 = 1) → False))) x1 1 z := ex1 ⟨fun h => absurd h n1_0, fun _ => ⟨fun _ => ⟨fun _ => hK _ (inv_e hI), fun h => absurd h (by decide)⟩, fun h => absurd rfl h⟩⟩
  refine ⟨fun a => ⟨rfl, ⟨fun _ => ⟨fun _ => e1, fun h => absurd rfl h⟩, fun b => absurd a b⟩⟩, fun a => ⟨fun b => ex1 ?_, fun b => ⟨rfl, ⟨fun c => absurd c a, fun _ => ⟨fun _ => ⟨fun _ => e1, fun h => absurd rfl h⟩, fun c => absurd ?_ b⟩⟩⟩⟩⟩
  · obtain ⟨p, hp, rfl⟩ := i32_nn a
    have hpa : p < aN A := by rw [oP.1, jI_lt hp (by omega)] at b; exact b
    obtain ⟨⟨hW0, hP0, ⟨m, m1, m2, m3⟩, hpas, hS⟩, h17, hD, hT, hR, hC⟩ := id h
    have em : z.2 0 9 ^^^ ((1 : Int64) <<< ((jI p).toInt64 &&& 63)) = jL (m ^^^ 2 ^ p) := by
      rw [m1, sh_63 p (by omega), sh_1 p (by omega), jL_xor]
    have hm' : m ^^^ 2 ^ p < 2 ^ aN A := Nat.xor_lt_two_pow m2 (Nat.pow_lt_pow_right (by decide) hpa)
    have hm63 : m ^^^ 2 ^ p < 9223372036854775808 := Nat.lt_of_lt_of_le hm' (Nat.le_trans (Nat.pow_le_pow_right (by decide) h40) (by decide))
    have bit : ∀ i, (m ^^^ 2 ^ p).testBit i = (m.testBit i ^^ decide (p = i)) := fun i => by rw [Nat.testBit_xor, Nat.testBit_two_pow]
    have bp : (m ^^^ 2 ^ p).testBit p = !m.testBit p := by rw [bit, decide_eq_true rfl]; cases m.testBit p <;> rfl
    rw [em]
    generalize hz2 : wL z 0 9 (jL (m ^^^ 2 ^ p)) = z2
    have e09 : z2.2 0 9 = jL (m ^^^ 2 ^ p) := by rw [← hz2]; exact zL_at
    rw [e09]
    refine s_isIn hm63 (by omega) ⟨bI_zb _, ?_⟩
    rw [bp]
    -- the end: both sides flipped
    have fin : ∀ v, Inv (wI (wI (wL z2 49 (0 : Int32).toNatClampNeg v) 31 0 0) 33 p (bI (!m.testBit p))) := by
      intro v
      have hF : Fz (fun c k => (c == 0 && k == 9) || (c == 33 || (c == 49 || (c == 31 && k == 0)))) z (wI (wI (wL z2 49 (0 : Int32).toNatClampNeg v) 31 0 0) 33 p (bI (!m.testBit p))) := by
        rw [← hz2]; exact fz_I (fz_I (fz_L (fz_L fz_rfl rfl) rfl) rfl) rfl
      have f : ∀ c k, c ≠ 0 → c ≠ 33 → c ≠ 49 → c ≠ 31 → (fun c k => (c == 0 && k == 9) || (c == 33 || (c == 49 || (c == 31 && k == 0)))) c k = false := by
        intro c k h0 h1 h2 h3
        simp only [Bool.or_eq_false_iff, Bool.and_eq_false_iff, beq_eq_false_iff_ne]
        exact ⟨Or.inl h0, h1, h2, Or.inl h3⟩
      refine ⟨A, se, sM, gM, ⟨hW0, ?_, ⟨m ^^^ 2 ^ p, ?_, hm', fun i hi => ?_⟩, pas_fr (fun _ => rfl) hF hpas, sei_fr (fun _ => rfl) (fun _ => rfl) (fun _ => rfl) (fun _ => rfl) ⟨rfl, rfl⟩ hF hS⟩, (hF 17 0 rfl).1.trans h17, ?_, tci_fr rfl (fun c k h1 h2 => f c k (by omega) (by omega) (by omega) (by omega)) hF hT, rci_fr ⟨rfl, rfl, rfl⟩ (fun c k h1 h2 => f c k (by omega) (by omega) (by omega) (by omega)) hF hR, cci_fr rfl (fun c k h => f c k (by omega) (by omega) (by omega) (by omega)) hF hC⟩
      · exact ⟨⟨ok_fr ⟨rfl, fun _ => rfl, fun _ => rfl⟩ hF oK, op_fr ⟨rfl, fun _ => rfl⟩ hF oP, ov_fr (fun _ => rfl) hF oV, oq_fr ⟨fun _ => rfl, fun _ => rfl⟩ hF oQ, (hF 0 8 rfl).1.trans oS⟩, rk_fr ⟨rfl, fun _ => rfl, fun _ => rfl⟩ hF rK, rp_fr ⟨rfl, fun _ => rfl⟩ hF rP, rv_fr (fun _ => rfl) hF rV, rq_fr ⟨fun _ => rfl, fun _ => rfl⟩ hF rQ, (hF 31 7 rfl).1.trans rS⟩
      · exact e09
      · show (wI (wI (wL z2 49 (0 : Int32).toNatClampNeg v) 31 0 0) 33 p (bI (!m.testBit p))).1 33 i = bI ((m ^^^ 2 ^ p).testBit i)
        by_cases e : i = p
        · subst e; rw [zI_at, bp]
        · rw [zI_ne e, bit, decide_eq_false (fun h => e h.symm), Bool.xor_false]
          have : z2.1 33 i = z.1 33 i := by rw [← hz2]; rfl
          exact this.trans (m3 i hi)
      · rcases hD with h | ⟨s, g, n, hd, hg⟩
        · exact Or.inl (did_fr (fun _ => rfl) ⟨rfl, rfl⟩ hF h)
        · refine Or.inr ⟨s, g, n, dac_fr (fun _ => rfl) ⟨rfl, rfl, rfl, rfl, rfl, rfl, rfl, rfl⟩ hF hd, ?_⟩
          rcases hg with ⟨a, b, c, d⟩ | ⟨a, b, c⟩
          · exact Or.inl ⟨(hF 31 19 rfl).1.trans a, (hF 0 10 rfl).1.trans b, c, d⟩
          · exact Or.inr ⟨(hF 31 19 rfl).1.trans a, by rw [(hF 31 21 rfl).1]; exact b, c⟩
    have r33 : z2.1 33 p = bI (m.testBit p) := by rw [← hz2]; exact m3 p hpa
    have r311 : z2.1 31 1 = jI (aN A) := by rw [← hz2]; exact rP.1
    have np : ¬ z2.1 31 1 ≤ jI p := by rw [r311, jI_le (by omega) hp]; omega
    have tn : (jI p).toNatClampNeg = p := jI_tn hp
    cases hb : m.testBit p with
    | false =>
      rw [hb] at fin r33
      refine ⟨fun h => absurd h (by decide), fun _ => ⟨vp_0, ex1 ⟨fun c => absurd c a, fun _ => ⟨fun c => absurd c np, fun _ => ⟨fun h => absurd h (by decide), fun _ => ex1 ⟨fun _ => ⟨vp_n (by omega) (by decide), fun h => absurd ?_ h, fun _ => ⟨vp_n (by omega) (by decide), ex1 ⟨vp_n (by omega) (by decide), ?_⟩⟩⟩, fun h => absurd (show (0 : Int32) ≤ 0 by decide) h⟩⟩⟩⟩⟩⟩
      · rw [tn]; exact r33
      · rw [tn, zI_at]
        exact ⟨Or.inr rfl, fun _ => ⟨fun h => absurd rfl h, fun _ => ⟨vp_0, fun h => absurd h (by decide), fun _ => ⟨fun _ => hK _ (fin 1), fun h => absurd rfl h⟩⟩⟩, fun h => absurd rfl h⟩
    | true =>
      rw [hb] at fin r33
      refine ⟨fun _ => ⟨vp_0, ex1 ⟨fun c => absurd c a, fun _ => ⟨fun c => absurd c np, fun _ => ⟨fun h => absurd h (by decide), fun _ => ex1 ⟨fun _ => ⟨vp_n (by omega) (by decide), fun _ => ⟨vp_n (by omega) (by decide), ex1 ⟨vp_n (by omega) (by decide), ?_⟩⟩, fun h => absurd h ?_⟩, fun h => absurd (show (0 : Int32) ≤ 0 by decide) h⟩⟩⟩⟩⟩, fun h => absurd rfl h⟩
      · rw [tn, zI_at]
        exact ⟨Or.inl rfl, fun _ => ⟨fun h => absurd rfl h, fun _ => ⟨vp_0, fun _ => ⟨fun _ => hK _ (fin 0), fun h => absurd rfl h⟩, fun h => absurd rfl h⟩⟩, fun h => absurd rfl h⟩
      · rw [tn, show (wI (wL z2 49 (0 : Int32).toNatClampNeg 0) 31 0 0).1 33 p = z2.1 33 p from rfl, r33]; decide
  · obtain ⟨p, hp, rfl⟩ := i32_nn a
    rw [rP.1, jI_le (by omega) hp] at c
    rw [oP.1, jI_lt hp (by omega)]; omega
theorem c_member {x1 x2 x3 x4 v4 : Int32} {z : St} {K : St → Prop} (hI : Inv z) (hK : ∀ z', Inv z' → K z') : B_16 x1 x2 x3 x4 v4 z K := by
  obtain ⟨A, se, sM, gM, h⟩ := id hI
  have hW := h.1.1
  obtain ⟨⟨oK, oP, oV, oQ, oS⟩, rK, rP, rV, rQ, rS⟩ := id h.1.2.1
  have hd := sei_dr hW h.1.2.2.2.2
  have i8 := hW.2.2.2.2.2.2.2
  have e2 : J_M_member_29 (fun (y94 : Int32) (z93 : St) => P_M_thrown z93 (fun (y96 : Int32) (z95 : St) => ((y96 = 2) → ((¬ (2 : Int32) = 0) → K z95) ∧ (((2 : Int32) = 0) → vp_in (0 : Int32) 1 ∧ (((z95.2 49 (0 : Int32).toNatClampNeg) = y94.toInt64) → K z95) ∧ ((¬ (z95.2 49 (0 : Int32).toNatClampNeg) = y94.toInt64) → False))) ∧ ((¬ y96 = 2) → False))) x1 2 z := ex1 ⟨fun h => absurd h n2_0, fun _ => law_same (hK _ (inv_e hI)) rfl (fun h => absurd h (by decide))⟩
  refine ⟨fun hle => ⟨fun h => absurd rfl h, fun _ => Or.inl ⟨rfl, ?_⟩⟩, fun hgt => ⟨fun _ => ?_, fun h => absurd h (by decide)⟩⟩
  · have hnd : z.1 31 19 = 0 := hd.elim (fun h => h.2) (fun h => absurd hle h.1)
    exact ⟨fun h => absurd hnd h, fun _ => ex1 ⟨fun h => absurd h n1_0, fun _ => law_same (hK _ (inv_e hI)) rfl (fun h => absurd h (by decide))⟩⟩
  · have hdn : ¬ z.1 31 19 = 0 := hd.elim (fun h => absurd h.1 hgt) (fun h => h.2)
    refine ⟨fun a => Or.inr ⟨rfl, fun _ => ⟨fun _ => e2, fun b => absurd a b⟩, fun h => absurd h hdn⟩, fun a => ⟨fun b => ⟨?_, vp_0, ex1 ⟨fun _ => ⟨fun c => absurd c a, fun _ => ⟨fun _ => ex1 ⟨fun _ => ⟨?_, ?_⟩, fun h => absurd (show (0 : Int32) ≤ 0 by decide) h⟩, fun c => absurd ?_ c⟩⟩, fun h => absurd h hdn⟩⟩, fun b => Or.inr ⟨rfl, fun _ => ⟨fun c => absurd c a, fun _ => ⟨fun c => absurd ?_ b, fun _ => e2⟩⟩, fun h => absurd h hdn⟩⟩⟩
    · obtain ⟨n, hn, rfl⟩ := i32_nn a
      rw [show z.1 0 8 = jI (sZ A) from oS, jI_lt hn (by omega)] at b
      exact vp_n (by omega) (by decide)
    · obtain ⟨n, hn, rfl⟩ := i32_nn a
      rw [show z.1 0 8 = jI (sZ A) from oS, jI_lt hn (by omega)] at b
      exact vp_n (by omega) (by decide)
    · obtain ⟨n, hn, rfl⟩ := i32_nn a
      rw [show z.1 0 8 = jI (sZ A) from oS, jI_lt hn (by omega)] at b
      refine law_same (hK _ (inv_fr (fz_I (fz_L fz_rfl rfl) rfl) hI)) rfl (fun _ => ?_)
      show (z.1 27 (jI n).toNatClampNeg).toInt64 = (z.1 44 (jI n).toNatClampNeg).toInt64
      rw [jI_tn hn]
      rcases h.1.2.2.2.2 with ⟨_, _, _, _, e, _⟩ | ⟨_, _, hS, _⟩
      · exact absurd e hdn
      · rw [(hS.2.1 n (by omega)).1, (hS.2.1 n (by omega)).2]
    · show x1 < z.1 31 7
      rw [show z.1 31 7 = jI (sZ A) from rS, ← show z.1 0 8 = jI (sZ A) from oS]; exact b
    · rw [show z.1 0 8 = jI (sZ A) from oS, ← show z.1 31 7 = jI (sZ A) from rS]; exact c
