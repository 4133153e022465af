/-! The case: dice. -/
abbrev Sdx : Nat → Nat → Bool := fun c k => c == 49 || (c == 25 || (Sw1 c k || S31d c k))
theorem sdx_f (c k : Nat) (h : c < 25 ∨ (25 < c ∧ c < 31) ∨ (31 < c ∧ c < 39) ∨ (43 < c ∧ c ≠ 49)) : Sdx c k = false := by
  simp only [Bool.or_eq_false_iff, Bool.and_eq_false_iff, beq_eq_false_iff_ne]
  exact ⟨by omega, by omega, ⟨Or.inl (by omega), by omega, by omega, by omega, by omega, by omega, Or.inl (by omega)⟩, Or.inl (by omega)⟩
theorem s25_sdx (c k : Nat) (e : Sdx c k = false) : S25 c k = false := by
  rw [Bool.or_eq_false_iff, Bool.or_eq_false_iff] at e; exact e.2.1
theorem s31d_sdx (c k : Nat) (e : Sdx c k = false) : S31d c k = false := by
  rw [Bool.or_eq_false_iff, Bool.or_eq_false_iff, Bool.or_eq_false_iff] at e; exact e.2.2.2
theorem sw1_sdx (c k : Nat) (e : Sdx c k = false) : Sw1 c k = false := by
  rw [Bool.or_eq_false_iff, Bool.or_eq_false_iff, Bool.or_eq_false_iff] at e; exact e.2.2.1
theorem inv_dice3 {A : Ab} {se : Nat → Nat} {sM gM s g n : Nat} {z z' : St} (h : IV A se sM gM z) (hF : Fz Sdx z z') (hd : DAC s g n z') (hg : GO A se sM gM g z) (hr : RCI A z') : Inv z' := by
  obtain ⟨⟨hW0, hP0, hM, hp, hS⟩, h17, hD, hT, hR, hC⟩ := h
  refine ⟨A, se, sM, gM, ⟨hW0, pool_fr (fun c k h1 h2 => sdx_f c k (by omega)) rfl (fun c k h1 h2 => sdx_f c k (by omega)) ⟨rfl, rfl, rfl⟩ hF hP0, mki_fr rfl (fun _ => rfl) hF hM, pas_fr (fun _ => rfl) hF hp, sei_fr (fun _ => rfl) (fun _ => rfl) (fun _ => rfl) (fun _ => rfl) ⟨rfl, rfl⟩ hF hS⟩, (hF 17 0 rfl).1.trans h17, Or.inr ⟨s, g, n, hd, ?_⟩, tci_fr rfl (fun c k h1 h2 => sdx_f c k (by omega)) hF hT, hr, cci_fr rfl (fun c k h => sdx_f c k (by omega)) hF hC⟩
  rcases hg with ⟨a, b, c, d⟩ | ⟨a, b, c⟩
  · exact Or.inl ⟨(hF 31 19 rfl).1.trans a, (hF 0 10 rfl).1.trans b, c, d⟩
  · exact Or.inr ⟨(hF 31 19 rfl).1.trans a, by rw [(hF 31 21 rfl).1]; exact b, c⟩
theorem sq289 (c k : Nat) (e : Sq c k = false) : S289 c k = false := by
  simp only [Bool.or_eq_false_iff, Bool.and_eq_false_iff, decide_eq_false_iff_not, beq_eq_false_iff_ne] at e ⊢
  omega
theorem rst_of {A : Ab} {se : Nat → Nat} {sM gM : Nat} {z z' : St} {S : Nat → Nat → Bool} (hP : Pool A z) (hS : ST A se z) (hM : MS A se sM gM z) (h1 : ∀ c k, 26 ≤ c → c ≤ 27 → S c k = false) (h2 : ∀ c k, 32 ≤ c → c ≤ 36 → S c k = false) (h3 : ∀ c k, 44 ≤ c → c ≤ 45 → S c k = false) (h4 : S 31 1 = false ∧ S 31 7 = false) (hF : Fz S z z') : RST A se sM gM z' :=
  ⟨rp_fr ⟨h4.1, fun k => h2 32 k (by decide) (by decide)⟩ hF hP.2.2.1, rv_fr (fun k => h2 34 k (by decide) (by decide)) hF hP.2.2.2.1, rq_fr ⟨fun k => h2 35 k (by decide) (by decide), fun k => h2 36 k (by decide) (by decide)⟩ hF hP.2.2.2.2.1, (hF 31 7 h4.2).1.trans hP.2.2.2.2.2, st_r (st_fr (h1 26 5 (by decide) (by decide)) (fun k => h1 27 k (by decide) (by decide)) (fun k => h3 44 k (by decide) (by decide)) hF hS), ms_r (ms_fr ⟨h1 26 6 (by decide) (by decide), h1 26 7 (by decide) (by decide)⟩ (fun k => h3 45 k (by decide) (by decide)) hF hM)⟩
theorem c_dice {x1 x2 x3 x4 v4 : Int32} {z : St} {K : St → Prop} (hI : Inv z) (hK : ∀ z', Inv z' → K z') : B_12 x1 x2 x3 x4 v4 z K := by
  obtain ⟨A, se, sM, gM, h⟩ := id hI
  have hW := h.1.1
  have h40 := hW.1
  have h27 : (2 : Nat) ^ 27 = 134217728 := rfl
  have er : ∀ (y : Int32) (z1 : St), Inv z1 → ¬ y ≤ 0 → ¬ y = 0 → J_M_dice_63 (fun (y71 : Int32) (z70 : St) => P_M_thrown z70 (fun (y73 : Int32) (z72 : St) => ((y73 = y) → ((¬ y = 0) → K z72) ∧ ((y = 0) → vp_in (0 : Int32) 1 ∧ (((z72.2 49 (0 : Int32).toNatClampNeg) = y71.toInt64) → K z72) ∧ ((¬ (z72.2 49 (0 : Int32).toNatClampNeg) = y71.toInt64) → False))) ∧ ((¬ y73 = y) → False))) x1 y z1 := fun y z1 h1 hy hy0 => ex1 ⟨fun h => absurd h hy, fun _ => law_same (hK _ (inv_e h1)) rfl (fun h => absurd h hy0)⟩
  unfold B_12 P_L_dice P_O_dice
  refine ⟨fun a => Or.inl ⟨rfl, fun _ => er 1 z hI n1_0 (by decide), fun b => absurd a b⟩, fun a => ⟨fun b => ?_, fun b => Or.inl ⟨rfl, fun c => absurd c a, fun _ => ⟨fun c => absurd c b, fun _ => er 1 z hI n1_0 (by decide)⟩⟩⟩⟩
  have a0 : ¬ x1 < 0 := fun h => a (Int32.lt_trans h (by decide))
  obtain ⟨s, hs, rfl⟩ := i32_nn a0
  have hs2 : 2 ≤ s := by rw [show (2 : Int32) = jI 2 from rfl, jI_lt hs (by decide)] at a; omega
  have hs20 : s ≤ 20 := by rw [show (20 : Int32) = jI 20 from rfl, jI_le hs (by decide)] at b; exact b
  have hcn := cn_le hW
  -- the reference, before anybody is drawn
  have refO : ∀ (z1 : St) (Q : Int32 → St → Prop), z1.1 31 19 = 0 → RM A z1 → (z1.1 31 11 = 0 ∨ ROK A z1) → (1001 < (GN A).1 → ∀ z2, Fz Sw1 z1 z2 → z2.1 31 11 = 1 → ROK A z2 → J_M_dice_63 Q (jI s) 2 z2) → ((GN A).1 ≤ 1001 → cnA A = 0 → ∀ z2, Fz Sw1 z1 z2 → z2.1 31 11 = 1 → ROK A z2 → J_M_dice_63 Q (jI s) 3 z2) → ((GN A).1 ≤ 1001 → cnA A ≠ 0 → ∀ z2, Fz Sw1 z1 z2 → z2.1 31 11 = 1 → ROK A z2 → RAB A z2 → J_M_dice_63 Q (jI s) 0 z2) → P_M_dice (jI s) z1 Q := by
    intro z1 Q e19 rM hC q2 q3 q0
    refine ⟨fun c => absurd c a, fun _ => ⟨fun _ => ⟨fun h => absurd e19 h, fun _ => m_counts hW rM hC (fun hle z2 hF2 e11 hR hB => ⟨fun _ => ?_, fun h => absurd h (by decide)⟩) (fun hgt z2 hF2 e11 hR => ⟨fun h => absurd rfl h, fun _ => q2 hgt z2 hF2 e11 hR⟩)⟩, fun c => absurd b c⟩⟩
    have e19' : z2.1 31 19 = 0 := (hF2 31 19 rfl).1.trans e19
    refine ⟨fun _ => ⟨fun _ => ⟨by unfold vp_in; decide, ?_⟩, fun h => absurd e19' h⟩, fun h => absurd e19' h⟩
    rw [show z2.2 41 (0 : Int32).toNatClampNeg = jL (cnA A) from rab_0 hW hB]
    exact ⟨fun hne => q0 hle (fun h => hne (by rw [h]; rfl)) z2 hF2 e11 hR hB, fun he => q3 hle ((jL_eq (b := 0) (by omega) (by decide)).mp he) z2 hF2 e11 hR⟩
  rcases id h.1.2.2.2.2 with ⟨d5, d6, d7, d8, d19, d21, d45⟩ | ⟨d19, dle, dST, dMS, dE⟩
  · refine o_countable h (fun hle z1 hF1 h1 e10 hT hb => ?_) (fun hgt z1 hF1 h1 => Or.inr (Or.inl ⟨rfl, refO z1 _ ((hF1 31 19 rfl).1.trans d19) (iv_rm h1) (iv_rc h1) (fun _ z2 hF2 e11 hR => er 2 z2 ⟨A, se, sM, gM, iv_ref h1 (fz_mono hF2 sw1_sw0) (Or.inr ⟨e11, hR⟩)⟩ n2_0 (by decide)) (fun h => by omega) (fun h => by omega)⟩))
    have e19 : z1.1 31 19 = 0 := (hF1 31 19 rfl).1.trans d19
    have e265 : z1.1 26 5 ≤ 0 := by rw [(hF1 26 5 rfl).1, d5]; decide
    refine ⟨fun _ => ⟨fun _ => ⟨by unfold vp_in; decide, ?_⟩, fun h => absurd rfl h⟩, fun h => absurd e265 h⟩
    rw [show z1.2 14 (0 : Int32).toNatClampNeg = jL (cnA A) from tab_0 hW hT]
    have hle1 : (1 : Int64) ≤ jL (cnA A) ↔ 1 ≤ cnA A := jL_le (a := 1) (by decide) (by omega)
    refine ⟨fun hge0 => ?_, fun hlt0 => Or.inr (Or.inr ⟨rfl, refO z1 _ e19 (iv_rm h1) (iv_rc h1) (fun h => by omega) (fun _ _ z2 hF2 e11 hR => er 3 z2 ⟨A, se, sM, gM, iv_ref h1 (fz_mono hF2 sw1_sw0) (Or.inr ⟨e11, hR⟩)⟩ n3_0 (by decide)) (fun _ h => absurd (hle1.mpr (by omega)) hlt0)⟩)⟩
    have hge := hle1.mp hge0
    have nsp := nD_spec hs2 hs20 (g := cnA A) (by omega) hge
    refine s_begin hs2 hs20 (by omega) hge (fun z2 hF2 f0 f2 f3 f4 f5 f6 f7 f1a f1b => ⟨vp_0, ex1 ?_⟩)
    generalize hz3 : wL z2 49 (0 : Int32).toNatClampNeg (jI (nD s (cnA A))).toInt64 = z3
    have hF3 : Fz (fun c k => c == 49 || c == 25) z1 z3 := by
      rw [← hz3]
      refine fz_L (fz_mono hF2 (fun c k e => ?_)) rfl
      rw [Bool.or_eq_false_iff] at e; exact e.2
    have o49 : z3.2 49 0 = (jI (nD s (cnA A))).toInt64 := by rw [← hz3]; rfl
    have g25 : ∀ k, z3.1 25 k = z2.1 25 k ∧ z3.2 25 k = z2.2 25 k := fun k => by rw [← hz3]; exact ⟨rfl, rfl⟩
    have rM3 : RM A z3 := rm_fr ⟨rfl, rfl, fun _ => rfl, fun _ => rfl, fun _ => rfl, fun _ => rfl, fun _ => rfl⟩ hF3 (iv_rm h1)
    have rC3 : z3.1 31 11 = 0 ∨ ROK A z3 := (iv_rc h1).imp (fun h => (hF3 31 11 rfl).1.trans h) (fun h => rok_fr ⟨rfl, rfl, fun _ => rfl, fun _ => rfl, fun _ => rfl⟩ ⟨fun _ => rfl, fun _ => rfl⟩ hF3 h)
    refine refO z3 _ ((hF3 31 19 rfl).1.trans e19) rM3 rC3 (fun h => by omega) (fun _ h => by omega) (fun _ _ z4 hF4 e11 hR hB => ?_)
    have e194 : z4.1 31 19 = 0 := (hF4 31 19 rfl).1.trans ((hF3 31 19 rfl).1.trans e19)
    refine m_dice hs2 hs20 (by omega) hge (fun z' Q' hz' hq => ⟨fun _ => ⟨by unfold vp_in; decide, ?_⟩, fun h => absurd ((hz' 31 19 rfl).1.trans e194) h⟩) (fun z5 hF5 g0 g23 g26 g28 g25' g24 g27 g30 g29a g29b => ?_)
    · rw [show z'.2 41 (0 : Int32).toNatClampNeg = jL (cnA A) from (hz' 41 0 rfl).2.trans (rab_0 hW hB)]; exact hq
    have t25 : ∀ k, z5.1 25 k = z2.1 25 k ∧ z5.2 25 k = z2.2 25 k := fun k => ⟨(hF5 25 k rfl).1.trans ((hF4 25 k rfl).1.trans (g25 k).1), (hF5 25 k rfl).2.trans ((hF4 25 k rfl).2.trans (g25 k).2)⟩
    refine law_same (hK _ (inv_dice3 (s := s) (g := cnA A) (n := nD s (cnA A)) h1 ?_ ⟨(t25 0).1.trans f0, hs2, hs20, (t25 2).1.trans f2, g23, hge, (t25 3).2.trans f3, g26, nsp.1, nsp.2.1, nsp.2.2.1, (t25 4).2.trans f4, g28, (t25 5).1.trans f5, g25', ?_⟩ (Or.inl ⟨e19, e10, hle, rfl⟩) (Or.inr ⟨(hF5 31 11 rfl).1.trans e11, rok_fr ⟨rfl, rfl, fun _ => rfl, fun _ => rfl, fun _ => rfl⟩ ⟨fun _ => rfl, fun _ => rfl⟩ hF5 hR⟩))) g0 (fun _ => (hF5 49 0 rfl).2.trans ((hF4 49 0 rfl).2.trans o49))
    · refine fz_trans (fz_mono hF3 (fun c k e => ?_)) (fz_trans (fz_mono hF4 sw1_sdx) (fz_mono hF5 s31d_sdx))
      rw [Bool.or_eq_false_iff, Bool.or_eq_false_iff] at e
      rw [Bool.or_eq_false_iff]; exact ⟨e.1, e.2.1⟩
    · by_cases c : nD s (cnA A) = 0
      · exact Or.inr ⟨(t25 1).1.trans (f1b c), g29b c, 0, hge, (t25 7).2.trans f7, g30⟩
      · exact Or.inl ⟨(t25 1).1.trans (f1a c), g29a c, 0, 0, by omega, by rw [Nat.pow_zero]; exact Nat.zero_lt_one, (t25 6).1.trans f6, g24, (t25 7).2.trans f7, g27⟩
  · refine o_countable h (fun hle z1 hF1 h1 e10 hT hb => ?_) (fun hgt => by omega)
    have e19 : z1.1 31 19 = 1 := (hF1 31 19 rfl).1.trans d19
    have n19 : ¬ z1.1 31 19 = 0 := by rw [e19]; decide
    have hS1 : ST A se z1 := st_fr rfl (fun _ => rfl) (fun _ => rfl) hF1 dST
    have hM1 : MS A se sM gM z1 := ms_fr ⟨rfl, rfl⟩ (fun _ => rfl) hF1 dMS
    obtain ⟨⟨oK1, oP1, oV1, oQ1, oS1⟩, rest⟩ := id h1.1.2.1
    have n265 : ¬ z1.1 26 5 ≤ 0 := by
      have := hW.2.2.2.2.2.2.1
      have := hW.2.2.2.2.2.2.2
      rw [hS1.1, show (0 : Int32) = jI 0 from rfl, jI_le (by omega) (by decide)]; omega
    -- the reference, when a panel is drawn
    have refD : ∀ (z2 : St) (Q : Int32 → St → Prop), z2.1 31 19 = 1 → (z2.1 31 21 = -1 → J_M_dice_63 Q (jI s) 3 z2) → (¬ z2.1 31 21 = -1 → J_M_dice_49 Q (jI s) z2) → P_M_dice (jI s) z2 Q := by
      intro z2 Q e h3 h0
      have n : ¬ z2.1 31 19 = 0 := by rw [e]; decide
      exact ⟨fun c => absurd c a, fun _ => ⟨fun _ => ⟨fun _ => ⟨fun h => absurd h n, fun _ => ⟨h3, h0⟩⟩, fun h => absurd h n⟩, fun c => absurd b c⟩⟩
    refine ⟨fun h => absurd h n265, fun _ => ⟨fun h => absurd h (by decide), fun _ => ?_⟩⟩
    rcases dE with ⟨d8, d21⟩ | ⟨e, he, d8, d21, dse⟩
    · have e268 : z1.1 26 8 < 0 := by rw [(hF1 26 8 rfl).1, d8]; decide
      refine ⟨fun _ => ⟨fun h => absurd rfl h, fun _ => ⟨fun h => absurd h (by decide), fun _ => Or.inr (Or.inr ⟨rfl, refD z1 _ e19 (fun _ => er 3 z1 ⟨A, se, sM, gM, h1⟩ n3_0 (by decide)) (fun h => absurd ((hF1 31 21 rfl).1.trans d21) h)⟩)⟩⟩, fun h => absurd e268 h⟩
    · have i8 := hW.2.2.2.2.2.2.2
      have n268 : ¬ z1.1 26 8 < 0 := by rw [(hF1 26 8 rfl).1, d8]; exact jI_nn (by omega)
      have n21 : ¬ z1.1 31 21 = -1 := by rw [(hF1 31 21 rfl).1, d21]; exact jI_m1 (by omega)
      have hca := cA_le A se sM gM
      refine s_cands hW oP1 oV1 oQ1 hS1 hM1 n268 (fun z2 hF2 hc => ?_)
      have h2 : IV A se sM gM z2 := iv_fr (fz_mono hF2 sq289) h1
      have hS2 : ST A se z2 := st_fr rfl (fun _ => rfl) (fun _ => rfl) hF2 hS1
      have hM2 : MS A se sM gM z2 := ms_fr ⟨rfl, rfl⟩ (fun _ => rfl) hF2 hM1
      have e192 : z2.1 31 19 = 1 := (hF2 31 19 rfl).1.trans e19
      have n192 : ¬ z2.1 31 19 = 0 := by rw [e192]; decide
      have n212 : ¬ z2.1 31 21 = -1 := by rw [(hF2 31 21 rfl).1]; exact n21
      have j49 : ∀ (z3 : St) (Q : Int32 → St → Prop), RST A se sM gM z3 → ¬ z3.1 31 19 = 0 → (cA A se sM gM ≠ 0 → J_M_dice_63 Q (jI s) 0 z3) → (cA A se sM gM = 0 → J_M_dice_63 Q (jI s) 3 z3) → J_M_dice_49 Q (jI s) z3 := by
        intro z3 Q hR n q0 q3
        refine ⟨fun h => absurd h n, fun _ => m_cands hW hR ?_⟩
        refine ⟨fun hne => q0 (fun h => hne (by rw [h]; rfl)), fun he => q3 ?_⟩
        rw [jI_toL (by omega)] at he
        exact (jL_eq (b := 0) (by omega) (by decide)).mp he
      have hle1 : (1 : Int64) ≤ (jI (cA A se sM gM)).toInt64 ↔ 1 ≤ cA A se sM gM := by rw [jI_toL (by omega)]; exact jL_le (a := 1) (by decide) (by omega)
      refine ⟨fun hge0 => ?_, fun hlt0 => Or.inr (Or.inr ⟨rfl, refD z2 _ e192 (fun h => absurd h n212) (fun _ => j49 z2 _ (rst_of (S := S28) h2.1.2.1 hS2 hM2 (fun c k _ _ => beq_eq_false_iff_ne.mpr (by omega)) (fun c k _ _ => beq_eq_false_iff_ne.mpr (by omega)) (fun c k _ _ => beq_eq_false_iff_ne.mpr (by omega)) ⟨rfl, rfl⟩ fz_rfl) n192 (fun h => absurd (hle1.mpr (by omega)) hlt0) (fun _ => er 3 z2 ⟨A, se, sM, gM, h2⟩ n3_0 (by decide)))⟩)⟩
      have hge := hle1.mp hge0
      have nsp := nD_spec hs2 hs20 (g := cA A se sM gM) (by omega) hge
      rw [jI_toL (n := cA A se sM gM) (by omega)]
      refine s_begin hs2 hs20 (by omega) hge (fun z3 hF3 f0 f2 f3 f4 f5 f6 f7 f1a f1b => ⟨vp_0, ex1 ?_⟩)
      generalize hz4 : wL z3 49 (0 : Int32).toNatClampNeg (jI (nD s (cA A se sM gM))).toInt64 = z4
      have hF4 : Fz Sdx z2 z4 := by
        rw [← hz4]
        exact fz_L (fz_mono hF3 s25_sdx) rfl
      have o49 : z4.2 49 0 = (jI (nD s (cA A se sM gM))).toInt64 := by rw [← hz4]; rfl
      have g25 : ∀ k, z4.1 25 k = z3.1 25 k ∧ z4.2 25 k = z3.2 25 k := fun k => by rw [← hz4]; exact ⟨rfl, rfl⟩
      have e194 : z4.1 31 19 = 1 := (hF4 31 19 rfl).1.trans e192
      have e214 : ¬ z4.1 31 21 = -1 := by rw [(hF4 31 21 rfl).1]; exact n212
      have c11 : z4.1 31 11 = z2.1 31 11 := by rw [← hz4]; exact (hF3 31 11 rfl).1
      have rok4 : ROK A z2 → ROK A z4 := by
        intro h
        rw [← hz4]
        exact rok_fr (S := fun c k => c == 49 || c == 25) ⟨rfl, rfl, fun _ => rfl, fun _ => rfl, fun _ => rfl⟩ ⟨fun _ => rfl, fun _ => rfl⟩ (fz_L (fz_mono hF3 (fun c k e => by rw [Bool.or_eq_false_iff] at e; exact e.2)) rfl) h
      have rstz : ∀ z', Fz Sdx z2 z' → RST A se sM gM z' := fun z' hz' => rst_of h2.1.2.1 hS2 hM2 (fun c k h1 h2 => sdx_f c k (by omega)) (fun c k h1 h2 => sdx_f c k (by omega)) (fun c k h1 h2 => sdx_f c k (by omega)) ⟨rfl, rfl⟩ hz'
      refine refD z4 _ e194 (fun h => absurd h e214) (fun _ => j49 z4 _ (rstz z4 hF4) (by rw [e194]; decide) (fun _ => ?_) (fun h => by omega))
      refine m_dice hs2 hs20 (by omega) hge (fun z' Q' hz' hq => ⟨fun h => absurd (((hz' 31 19 rfl).1.trans e194).symm.trans h) (by decide), fun _ => m_cands hW (rstz z' (fz_trans hF4 (fz_mono hz' s31d_sdx))) ?_⟩) (fun z5 hF5 g0 g23 g26 g28 g25' g24 g27 g30 g29a g29b => ?_)
      · rw [jI_toL (by omega)]; exact hq
      have t25 : ∀ k, z5.1 25 k = z3.1 25 k ∧ z5.2 25 k = z3.2 25 k := fun k => ⟨(hF5 25 k rfl).1.trans (g25 k).1, (hF5 25 k rfl).2.trans (g25 k).2⟩
      refine law_same (hK _ (inv_dice3 (s := s) (g := cA A se sM gM) (n := nD s (cA A se sM gM)) h2 (fz_trans hF4 (fz_mono hF5 s31d_sdx)) ⟨(t25 0).1.trans f0, hs2, hs20, (t25 2).1.trans f2, g23, hge, (t25 3).2.trans f3, g26, nsp.1, nsp.2.1, nsp.2.2.1, (t25 4).2.trans f4, g28, (t25 5).1.trans f5, g25', ?_⟩ (Or.inr ⟨e192, n212, rfl⟩) ?_)) g0 (fun _ => (hF5 49 0 rfl).2.trans o49)
      · by_cases c : nD s (cA A se sM gM) = 0
        · exact Or.inr ⟨(t25 1).1.trans (f1b c), g29b c, 0, hge, (t25 7).2.trans f7, g30⟩
        · exact Or.inl ⟨(t25 1).1.trans (f1a c), g29a c, 0, 0, by omega, by rw [Nat.pow_zero]; exact Nat.zero_lt_one, (t25 6).1.trans f6, g24, (t25 7).2.trans f7, g27⟩
      · rcases h2.2.2.2.2.1 with h0 | ⟨h0, hr⟩
        · exact Or.inl ((hF5 31 11 rfl).1.trans (c11.trans h0))
        · exact Or.inr ⟨(hF5 31 11 rfl).1.trans (c11.trans h0), rok_fr ⟨rfl, rfl, fun _ => rfl, fun _ => rfl, fun _ => rfl⟩ ⟨fun _ => rfl, fun _ => rfl⟩ hF5 (rok4 hr)⟩
