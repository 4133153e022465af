/-! The cases: count, states, chance, panel, rank. -/
theorem sv_sk (c k : Nat) (e : Sk c k = false) : Sv c k = false := by
  simp only [Bool.or_eq_false_iff, Bool.and_eq_false_iff, decide_eq_false_iff_not, beq_eq_false_iff_ne] at e ⊢
  obtain ⟨h1, _, _, _, _, h6, _⟩ := e
  exact ⟨h6.imp id (fun h => h.1), h1⟩
theorem sv_f (c k : Nat) (h : 17 < c) : Sv c k = false := by
  simp only [Bool.or_eq_false_iff, Bool.and_eq_false_iff, decide_eq_false_iff_not, beq_eq_false_iff_ne]
  exact ⟨Or.inl (by omega), Or.inr (by omega)⟩
theorem o_refresh {A : Ab} {se : Nat → Nat} {sM gM : Nat} {z : St} {Q : St → Prop} (h : IV A se sM gM z) (hQ : ∀ z', Fz Sv z z' → IV A se sM gM z' → z'.1 0 10 = 1 → TOK A z' → (z'.1 9 11 = 1 ∨ BH A z') → Q z') : P_O_refreshTally z Q := by
  obtain ⟨hB, h17, hD, hT, hR, hC⟩ := id h
  obtain ⟨⟨oK, oP, oV, oQ, oS⟩, rK, rP, rV, rQ, rS⟩ := id hB.2.1
  refine s_refresh hB.1 oK oV oQ oS hB.2.2.2.1 h17 (hT.imp id (fun h => ⟨h.1, h.2.1⟩)) (fun h1 hO => ?_) (fun h0 z' hF h1 hO e17 e9 => ?_)
  · rcases hT with h0 | ⟨_, _, h3⟩
    · exact absurd (h0.symm.trans h1) (by decide)
    · exact hQ z fz_rfl h h1 hO h3
  · have hb : z'.1 9 11 = 1 ∨ BH A z' := e9.elim (fun h => Or.inr (Or.inl h)) Or.inl
    have hk := fz_mono hF sv_sk
    exact hQ z' hF ⟨bas_fr hk hB, e17, dii_fr hk (fun _ => h1) hD, Or.inr ⟨h1, hO, hb⟩, rci_fr ⟨rfl, rfl, rfl⟩ (fun c k a b => sv_f c k (by omega)) hF hR, cci_fr rfl (fun c k a => sv_f c k (by omega)) hF hC⟩ h1 hO hb
theorem o_countable {A : Ab} {se : Nat → Nat} {sM gM : Nat} {z : St} {Q : St → Prop} {X : Nat → St → Prop} (h : IV A se sM gM z) (good : (GN A).1 ≤ 1001 → ∀ z', Fz Sv z z' → IV A se sM gM z' → z'.1 0 10 = 1 → TAB A z' → BH A z' → Q z') (bad : 1001 < (GN A).1 → ∀ z', Fz Sv z z' → IV A se sM gM z' → X 3 z') : P_O_requireCountable z Q X := by
  refine o_refresh h (fun z' hF hI h1 hO hb => ?_)
  rcases hO with ⟨a, b⟩ | ⟨a, b, c⟩
  · exact ⟨Or.inr a, fun h => absurd (h.symm.trans a) (by decide), fun _ => bad b z' hF hI⟩
  · exact ⟨Or.inl a, fun _ => good b z' hF hI h1 c (hb.elim (fun h => absurd (a.symm.trans h) (by decide)) id), fun h => absurd a h⟩
theorem sw0_sk (c k : Nat) (e : Sk c k = false) : Sw0 c k = false := by
  simp only [Bool.or_eq_false_iff, Bool.and_eq_false_iff, decide_eq_false_iff_not, beq_eq_false_iff_ne] at e ⊢
  obtain ⟨_, _, _, h4, _, _, h7⟩ := e
  exact ⟨h7.imp id (fun h => h.1), h7.imp id (fun h => h.2.1), by omega, by omega, by omega, by omega, by omega, h7.imp id (fun h => ⟨h.2.2.1, h.2.2.2.1⟩)⟩
theorem sw0_f (c k : Nat) (h : c < 31 ∨ 43 < c) : Sw0 c k = false := by
  simp only [Bool.or_eq_false_iff, Bool.and_eq_false_iff, decide_eq_false_iff_not, beq_eq_false_iff_ne]
  exact ⟨Or.inl (by omega), Or.inl (by omega), by omega, by omega, by omega, by omega, by omega, Or.inl (by omega)⟩
/-- the reference has counted, or has begun anew -/
theorem iv_ref {A : Ab} {se : Nat → Nat} {sM gM : Nat} {z z' : St} (h : IV A se sM gM z) (hF : Fz Sw0 z z') (hr : RCI A z') : IV A se sM gM z' := by
  obtain ⟨hB, h17, hD, hT, hR, hC⟩ := h
  have hk := fz_mono hF sw0_sk
  exact ⟨bas_fr hk hB, (hF 17 0 rfl).1.trans h17, dii_fr hk (fun h => (hF 0 10 rfl).1.trans h) hD, tci_fr rfl (fun c k a b => sw0_f c k (by omega)) hF hT, hr, cci_fr rfl (fun c k a => sw0_f c k (by omega)) hF hC⟩
theorem iv_out {A : Ab} {se : Nat → Nat} {sM gM k : Nat} {z : St} {v : Int64} (h : IV A se sM gM z) : IV A se sM gM (wL z 49 k v) := iv_fr (fz_L fz_rfl rfl) h
theorem iv_rm {A : Ab} {se : Nat → Nat} {sM gM : Nat} {z : St} (h : IV A se sM gM z) : RM A z := ⟨h.1.2.1.2.1, h.1.2.1.2.2.2.1, h.1.2.1.2.2.2.2.1, h.1.2.1.2.2.2.2.2⟩
theorem iv_rc {A : Ab} {se : Nat → Nat} {sM gM : Nat} {z : St} (h : IV A se sM gM z) : z.1 31 11 = 0 ∨ ROK A z := h.2.2.2.2.1.imp id (fun h => h.2)
theorem c_count {x1 x2 x3 x4 v4 : Int32} {z : St} {K : St → Prop} (hI : Inv z) (hK : ∀ z', Inv z' → K z') : B_4 x1 x2 x3 x4 v4 z K := by
  obtain ⟨A, se, sM, gM, h⟩ := id hI
  have hW := h.1.1
  unfold B_4 P_L_count P_O_count
  refine o_countable h (fun hle z1 hF1 h1 e10 hT hb => ⟨by unfold vp_in; decide, vp_0, ex1 ?_⟩) (fun hgt z1 hF1 h1 => ⟨rfl, ?_⟩)
  · have h1' : IV A se sM gM (wL z1 49 (0 : Int32).toNatClampNeg (z1.2 14 (0 : Int32).toNatClampNeg)) := iv_out h1
    refine m_counts hW (iv_rm h1') (iv_rc h1') (fun _ z2 hF2 e11 hR hB => ⟨fun h => absurd h (by decide), fun _ => ex1 ⟨fun _ => ⟨by unfold vp_in; decide, ?_⟩, fun h => absurd (show (0 : Int32) ≤ 0 by decide) h⟩⟩) (fun hgt => absurd hle (by omega))
    refine law_sameL (hK _ ⟨A, se, sM, gM, iv_ref h1' (fz_I (fz_mono hF2 sw1_sw0) rfl) (Or.inr ⟨e11, rok_0fr hR⟩)⟩) rfl (fun _ => ?_)
    show z2.2 49 0 = z2.2 41 0
    rw [rab_0 hW hB, (hF2 49 0 rfl).2]
    exact tab_0 hW hT
  · refine m_counts hW (iv_rm h1) (iv_rc h1) (fun hle => absurd hgt (by omega)) (fun _ z2 hF2 e11 hR => ⟨fun _ => ex1 ⟨fun h => absurd h n1_0, fun _ => ?_⟩, fun h => absurd rfl h⟩)
    exact law_sameL (hK _ ⟨A, se, sM, gM, iv_ref h1 (fz_I (fz_mono hF2 sw1_sw0) rfl) (Or.inr ⟨e11, rok_0fr hR⟩)⟩) rfl (fun h => absurd h (by decide))
theorem c_states {x1 x2 x3 x4 v4 : Int32} {z : St} {K : St → Prop} (hI : Inv z) (hK : ∀ z', Inv z' → K z') : B_5 x1 x2 x3 x4 v4 z K := by
  obtain ⟨A, se, sM, gM, h⟩ := id hI
  have hW := h.1.1
  have fin : ∀ z1, IV A se sM gM z1 → ∀ (y : Int32), ((GN A).1 ≤ 1001 → y = jI (GN A).1 - 1) → (1001 < (GN A).1 → y = -1) → P_M_states z1 (fun (y31 : Int32) (z30 : St) => ((y = y31) → K z30) ∧ ((¬ y = y31) → False)) := by
    intro z1 h1 y hy1 hy2
    have h1' : IV A se sM gM (wI z1 31 0 0) := iv_fr (fz_I fz_rfl rfl) h1
    refine ex1 (m_counts hW (iv_rm h1') (iv_rc h1') (fun hle z2 hF2 e11 hR hB => ⟨fun h => absurd h (by decide), fun _ => ?_⟩) (fun hgt z2 hF2 e11 hR => ⟨fun _ => ?_, fun h => absurd rfl h⟩))
    · rw [hB.1.1.1, ← hy1 hle]
      exact ⟨fun _ => hK _ ⟨A, se, sM, gM, iv_ref h1' (fz_mono hF2 sw1_sw0) (Or.inr ⟨e11, hR⟩)⟩, fun h => absurd rfl h⟩
    · rw [← hy2 hgt]
      exact ⟨fun _ => hK _ ⟨A, se, sM, gM, iv_ref h1' (fz_mono hF2 sw1_sw0) (Or.inr ⟨e11, hR⟩)⟩, fun h => absurd rfl h⟩
  unfold B_5 P_O_states
  refine o_refresh h (fun z1 hF h1 e10 hO hb => ?_)
  rcases hO with ⟨a, b⟩ | ⟨a, b, c⟩
  · exact ⟨Or.inr a, fun h => absurd (h.symm.trans a) (by decide), fun _ => fin z1 h1 (-1) (fun h => by omega) (fun _ => rfl)⟩
  · refine ⟨Or.inl a, fun _ => ?_, fun h => absurd a h⟩
    refine fin z1 h1 _ (fun _ => ?_) (fun h => by omega)
    rw [c.1.1]
theorem c_rank {x1 x2 x3 x4 v4 : Int32} {z : St} {K : St → Prop} (hI : Inv z) (hK : ∀ z', Inv z' → K z') : B_11 x1 x2 x3 x4 v4 z K := by
  obtain ⟨A, se, sM, gM, h⟩ := id hI
  have hW := h.1.1
  unfold B_11 P_L_rank P_O_rank
  refine o_countable h (fun hle z1 hF1 h1 e10 hT hb => ?_) (fun hgt z1 hF1 h1 => Or.inr ⟨rfl, ?_⟩)
  · obtain ⟨m, m1, m2, m3⟩ := id h1.1.2.2.1
    have hm63 : m < 9223372036854775808 := Nat.lt_of_lt_of_le m2 (Nat.le_trans (Nat.pow_le_pow_right (by decide) hW.1) (by decide))
    rw [m1]
    refine s_rankOf hW h1.1.2.1.1.1 h1.1.2.1.1.2.1 hT h1.1.2.2.2.1 hm63 (fun hp hl => ⟨fun _ => ⟨vp_0, ex1 ?_⟩, fun hn => absurd ?_ hn⟩) (fun hp => ⟨fun h => absurd h (by decide), fun _ => Or.inl ⟨rfl, ?_⟩⟩)
    · have h1' : IV A se sM gM (wL z1 49 (0 : Int32).toNatClampNeg (jL (rkA A (fun p => m.testBit p) (kN A) 0 0 0))) := iv_out h1
      refine m_rank (μ := fun p => m.testBit p) hW (iv_rm h1') h1'.1.2.1.2.2.1 m3 (iv_rc h1') (fun h => by omega) (fun _ h => absurd hp h) (fun _ _ z2 hF2 e11 hR e0 => law_sameL (hK _ ⟨A, se, sM, gM, iv_ref h1' hF2 (Or.inr ⟨e11, hR⟩)⟩) e0 (fun _ => (hF2 49 0 rfl).2))
    · rw [show (0 : Int64) = jL 0 from rfl, jL_le (by decide) hl]; exact Nat.zero_le _
    · exact m_rank (μ := fun p => m.testBit p) hW (iv_rm h1) h1.1.2.1.2.2.1 m3 (iv_rc h1) (fun h => by omega) (fun _ _ z2 hF2 e11 hR e0 => law_sameL (hK _ ⟨A, se, sM, gM, iv_ref h1 hF2 (Or.inr ⟨e11, hR⟩)⟩) e0 (fun h => absurd h (by decide))) (fun _ h => absurd h hp)
  · obtain ⟨m, m1, m2, m3⟩ := id h1.1.2.2.1
    exact m_rank (μ := fun p => m.testBit p) hW (iv_rm h1) h1.1.2.1.2.2.1 m3 (iv_rc h1) (fun _ z2 hF2 e11 hR e0 => law_sameL (hK _ ⟨A, se, sM, gM, iv_ref h1 hF2 (Or.inr ⟨e11, hR⟩)⟩) e0 (fun h => absurd h (by decide))) (fun h => by omega) (fun h => by omega)
theorem iv_tab {A : Ab} {se : Nat → Nat} {sM gM : Nat} {z z' : St} (h : IV A se sM gM z) (h10 : z.1 0 10 = 1) (hle : (GN A).1 ≤ 1001) (hF : Fz S159 z z') (hT : TAB A z') (hb : BH A z') : IV A se sM gM z' := by
  obtain ⟨hB, h17, hD, _, hR, hC⟩ := h
  have sk : ∀ c k, Sk c k = false → S159 c k = false := by
    intro c k e
    simp only [Bool.or_eq_false_iff, Bool.and_eq_false_iff, decide_eq_false_iff_not, beq_eq_false_iff_ne] at e ⊢
    have := e.1
    exact ⟨by omega, Or.inl (by omega)⟩
  have hk := fz_mono hF sk
  have f : ∀ c k, 17 < c → S159 c k = false := by
    intro c k e
    simp only [Bool.or_eq_false_iff, Bool.and_eq_false_iff, beq_eq_false_iff_ne]
    exact ⟨by omega, Or.inl (by omega)⟩
  exact ⟨bas_fr hk hB, (hF 17 0 rfl).1.trans h17, dii_fr hk (fun h => (hF 0 10 rfl).1.trans h) hD, Or.inr ⟨(hF 0 10 rfl).1.trans h10, Or.inr ⟨hT.1.2.1, hle, hT⟩, Or.inr hb⟩, rci_fr ⟨rfl, rfl, rfl⟩ (fun c k a b => f c k (by omega)) hF hR, cci_fr rfl (fun c k a => f c k (by omega)) hF hC⟩
theorem kd_of {k : Nat} (hk : k ≤ 16) : ∀ j, j ≤ 16 → (jI j = jI k ↔ j = k) := fun j hj => jI_eq (by omega) (by omega)
theorem c_chance {x1 x2 x3 x4 v4 : Int32} {z : St} {K : St → Prop} (hI : Inv z) (hK : ∀ z', Inv z' → K z') : B_6 x1 x2 x3 x4 v4 z K := by
  obtain ⟨A, se, sM, gM, h⟩ := id hI
  have hW := h.1.1
  have h16 := hW.2.1
  have h40 := hW.1
  obtain ⟨⟨oK, oP, oV, oQ, oS⟩, rK, rP, rV, rQ, rS⟩ := id h.1.2.1
  have e1 : J_M_chance_25 (fun (y35 : Int64) (z34 : St) => P_M_thrown z34 (fun (y37 : Int32) (z36 : St) => ((y37 = 1) → ((¬ (1 : Int32) = 0) → K z36) ∧ (((1 : Int32) = 0) → vp_in (0 : Int32) 1 ∧ (((z36.2 49 (0 : Int32).toNatClampNeg) = y35) → K z36) ∧ ((¬ (z36.2 49 (0 : Int32).toNatClampNeg) = y35) → False))) ∧ ((¬ y37 = 1) → False))) x1 1 z := ex1 ⟨fun h => absurd h n1_0, fun _ => law_sameL (hK _ (inv_e hI)) rfl (fun h => absurd h (by decide))⟩
  refine ⟨fun a => Or.inl ⟨rfl, fun _ => ⟨fun h => absurd rfl h, fun _ => e1⟩, fun b => absurd a b⟩, fun a => ⟨fun b => ?_, fun b => Or.inl ⟨rfl, fun c => absurd c a, fun _ => ⟨fun _ => ⟨fun h => absurd rfl h, fun _ => e1⟩, fun c => absurd ?_ b⟩⟩⟩⟩
  · obtain ⟨p, hp, rfl⟩ := i32_nn a
    have hpa : p < aN A := by rw [oP.1, jI_lt hp (by omega)] at b; exact b
    obtain ⟨k0, hk0, ek0⟩ := hW.2.2.1.2.2 p hpa
    have isp : ∀ (z1 : St) (Q : Int32 → St → Prop), z1.1 31 1 = jI (aN A) → Q 1 z1 → P_M_isPerson (jI p) z1 Q := by
      intro z1 Q e h
      refine ⟨fun c => absurd c a, fun _ => ⟨fun c => absurd c ?_, fun _ => h⟩⟩
      rw [e, jI_le (by omega) hp]; omega
    refine o_countable h (fun hle z1 hF1 h1 e10 hT hb => ?_) (fun hgt z1 hF1 h1 => Or.inr ⟨rfl, ?_⟩)
    · obtain ⟨⟨oK1, oP1, _, _, _⟩, _, _, _⟩ := id h1.1.2.1
      refine s_kindOf hW oK1 oP1 hpa (fun k hk ek => s_panelsWith hW hk oK1 hT.1 h1.1.2.2.2.1 hT.2 hb (fun z2 hF2 hT2 hb2 => ⟨vp_0, ex1 ?_⟩))
      have h2 := iv_out (k := (0 : Int32).toNatClampNeg) (v := jL (wq A k (kN A) 0)) (iv_tab h1 e10 hle hF2 hT2 hb2)
      generalize hz3 : wL z2 49 (0 : Int32).toNatClampNeg (jL (wq A k (kN A) 0)) = z3 at h2 ⊢
      have o49 : z3.2 49 0 = jL (wq A k (kN A) 0) := by rw [← hz3]; rfl
      refine isp z3 _ h2.1.2.1.2.2.1.1 ⟨fun _ => m_counts hW (iv_rm h2) (iv_rc h2) (fun _ z4 hF4 e11 hR hB => ⟨fun _ => ex1 ⟨fun _ => ?_, fun h => absurd (show (0 : Int32) ≤ 0 by decide) h⟩, fun h => absurd h (by decide)⟩) (fun hgt => by omega), fun h => absurd h (by decide)⟩
      have h4 := iv_ref h2 (z' := wI z4 31 0 0) (fz_I (fz_mono hF4 sw1_sw0) rfl) (Or.inr ⟨e11, rok_0fr hR⟩)
      have o49' : (wI z4 31 0 0).2 49 0 = jL (wq A k (kN A) 0) := (hF4 49 0 rfl).2.trans o49
      have e50 : (wI z4 31 0 0).1 31 0 = 0 := rfl
      generalize wI z4 31 0 0 = z5 at h4 o49' e50 ⊢
      refine m_kindOf hW h4.1.2.1.2.1 h4.1.2.1.2.2.1 hpa (fun k' hk' ek' => ?_)
      have : k' = k := kc_inj hW hk' hk (ek'.trans ek.symm)
      subst this
      refine m_work hW (kd_of (by omega)) (iv_rm h4) (fun _ z6 hF6 hR6 hA6 => ex1 ⟨by unfold vp_in; decide, ?_⟩) (fun h => by omega)
      have e0 : (wI z6 31 11 0).1 31 0 = z5.1 31 0 := (hF6 31 0 rfl).1
      refine law_sameL (hK _ ⟨A, se, sM, gM, iv_ref h4 (fz_I (fz_mono (fz_mono hF6 sw_sw1) sw1_sw0) rfl) (Or.inl rfl)⟩) ?_ (fun _ => ?_)
      · exact e0.trans e50
      · show z6.2 49 0 = z6.2 41 0
        rw [(hF6 49 0 rfl).2, o49', ra_0 hA6]
    · refine isp z1 _ h1.1.2.1.2.2.1.1 ⟨fun _ => m_counts hW (iv_rm h1) (iv_rc h1) (fun h => by omega) (fun _ z4 hF4 e11 hR => ⟨fun h => absurd rfl h, fun _ => ex1 ⟨fun h => absurd h n2_0, fun _ => ?_⟩⟩), fun h => absurd h (by decide)⟩
      exact law_sameL (hK _ ⟨A, se, sM, gM, iv_ref h1 (fz_I (fz_mono hF4 sw1_sw0) rfl) (Or.inr ⟨e11, rok_0fr hR⟩)⟩) rfl (fun h => absurd h (by decide))
  · obtain ⟨p, hp, rfl⟩ := i32_nn a
    rw [rP.1, jI_le (by omega) hp] at c
    rw [oP.1, jI_lt hp (by omega)]; omega
