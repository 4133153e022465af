/-! The case: blocked. -/
theorem m_l48 {z : St} {K : Int32 → St → Prop} {Q : Int32 → St → Prop} {v : Int32} (h : ∀ z', Fz (fun c _ => c == 46 || c == 47) z z' → (∀ q, q < 12 → z'.1 46 q = z.1 35 q ∧ z'.1 47 q = z.1 36 q) → K v z') : ∃ n, L_M_blocked_48 K Q n v 0 z := by
  have loop : ∀ (d q : Nat) (z' : St), q + d = 12 → Fz (fun c _ => c == 46 || c == 47) z z' → (∀ q', q' < q → z'.1 46 q' = z.1 35 q' ∧ z'.1 47 q' = z.1 36 q') → L_M_blocked_48 K Q (d + 1) v (jI q) z' := by
    intro d
    induction d with
    | zero =>
      intro q z' hq hF hv
      refine ⟨fun _ => h z' hF (fun t ht => hv t (by omega)), fun hn => absurd ?_ hn⟩
      rw [show (12 : Int32) = jI 12 from rfl, jI_le (by decide) (by omega)]; omega
    | succ d ih =>
      intro q z' hq hF hv
      refine ⟨fun hn => absurd hn ?_, fun _ => ?_⟩
      · rw [show (12 : Int32) = jI 12 from rfl, jI_le (by decide) (by omega)]; omega
      rw [jI_tn (n := q) (by omega)]
      refine ⟨vp_n (by omega) (by decide), vp_n (by omega) (by decide), ex1 ⟨vp_n (by omega) (by decide), vp_n (by omega) (by decide), ex1 (ex1 ?_)⟩⟩
      rw [jI_s]
      refine ih (q + 1) _ (by omega) (fz_I (fz_I hF rfl) rfl) (fun t ht => ?_)
      by_cases e : t = q
      · subst e; exact ⟨(zI_at (z := z') (c := 46)).trans (hF 35 t rfl).1, (zI_at (z := wI z' 46 t (z'.1 35 t)) (c := 47)).trans (hF 36 t rfl).1⟩
      · exact ⟨(zI_ne (z := z') (c := 46) e).trans (hv t (by omega)).1, (zI_ne (z := wI z' 46 q (z'.1 35 q)) (c := 47) e).trans (hv t (by omega)).2⟩
  exact ⟨_, loop 12 0 z (by omega) fz_rfl (fun t ht => absurd ht (Nat.not_lt_zero t))⟩
theorem m_l92 {z : St} {K : Int32 → St → Prop} {Q : Int32 → St → Prop} {v : Int32} (h : ∀ z', Fz (fun c _ => c == 35 || c == 36) z z' → (∀ q, q < 12 → z'.1 35 q = z.1 46 q ∧ z'.1 36 q = z.1 47 q) → K v z') : ∃ n, L_M_blocked_92 K Q n v 0 z := by
  have loop : ∀ (d q : Nat) (z' : St), q + d = 12 → Fz (fun c _ => c == 35 || c == 36) z z' → (∀ q', q' < q → z'.1 35 q' = z.1 46 q' ∧ z'.1 36 q' = z.1 47 q') → L_M_blocked_92 K Q (d + 1) v (jI q) z' := by
    intro d
    induction d with
    | zero =>
      intro q z' hq hF hv
      refine ⟨fun _ => h z' hF (fun t ht => hv t (by omega)), fun hn => absurd ?_ hn⟩
      rw [show (12 : Int32) = jI 12 from rfl, jI_le (by decide) (by omega)]; omega
    | succ d ih =>
      intro q z' hq hF hv
      refine ⟨fun hn => absurd hn ?_, fun _ => ?_⟩
      · rw [show (12 : Int32) = jI 12 from rfl, jI_le (by decide) (by omega)]; omega
      rw [jI_tn (n := q) (by omega)]
      refine ⟨vp_n (by omega) (by decide), vp_n (by omega) (by decide), ex1 ⟨vp_n (by omega) (by decide), vp_n (by omega) (by decide), ex1 (ex1 ?_)⟩⟩
      rw [jI_s]
      refine ih (q + 1) _ (by omega) (fz_I (fz_I hF rfl) rfl) (fun t ht => ?_)
      by_cases e : t = q
      · subst e; exact ⟨(zI_at (z := z') (c := 35)).trans (hF 46 t rfl).1, (zI_at (z := wI z' 35 t (z'.1 46 t)) (c := 36)).trans (hF 47 t rfl).1⟩
      · exact ⟨(zI_ne (z := z') (c := 35) e).trans (hv t (by omega)).1, (zI_ne (z := wI z' 35 q (z'.1 46 q)) (c := 36) e).trans (hv t (by omega)).2⟩
  exact ⟨_, loop 12 0 z (by omega) fz_rfl (fun t ht => absurd ht (Nat.not_lt_zero t))⟩
abbrev Sbl : Nat → Nat → Bool := fun c k => c == 35 || (c == 36 || (c == 46 || (c == 47 || Sw0 c k)))
theorem sbl_f (c k : Nat) (h : c < 31 ∨ (31 < c ∧ c < 35) ∨ c = 37 ∨ c = 38 ∨ c = 44 ∨ c = 45) : Sbl c k = false := by
  simp only [Bool.or_eq_false_iff, Bool.and_eq_false_iff, beq_eq_false_iff_ne]
  exact ⟨by omega, by omega, by omega, by omega, Or.inl (by omega), Or.inl (by omega), by omega, by omega, by omega, by omega, by omega, Or.inl (by omega)⟩
theorem iv_bl {A : Ab} {se : Nat → Nat} {sM gM : Nat} {z z' : St} (h : IV A se sM gM z) (hF : Fz Sbl z z') (hq : RQ A z') (h11 : z'.1 31 11 = 0) : IV A se sM gM z' := by
  obtain ⟨⟨hW0, hP0, hM, hp, hS⟩, h17, hD, hT, _, hC⟩ := h
  obtain ⟨⟨oK, oP, oV, oQ, oS⟩, rK, rP, rV, rQ, rS⟩ := hP0
  refine ⟨⟨hW0, ⟨⟨ok_fr ⟨rfl, fun _ => rfl, fun _ => rfl⟩ hF oK, op_fr ⟨rfl, fun _ => rfl⟩ hF oP, ov_fr (fun _ => rfl) hF oV, oq_fr ⟨fun _ => rfl, fun _ => rfl⟩ hF oQ, (hF 0 8 rfl).1.trans oS⟩, rk_fr ⟨rfl, fun _ => rfl, fun _ => rfl⟩ hF rK, rp_fr ⟨rfl, fun _ => rfl⟩ hF rP, rv_fr (fun _ => rfl) hF rV, hq, (hF 31 7 rfl).1.trans rS⟩, mki_fr rfl (fun _ => rfl) hF hM, pas_fr (fun _ => rfl) hF hp, sei_fr (fun _ => rfl) (fun _ => rfl) (fun _ => rfl) (fun _ => rfl) ⟨rfl, rfl⟩ hF hS⟩, (hF 17 0 rfl).1.trans h17, ?_, tci_fr rfl (fun c k h1 h2 => sbl_f c k (by omega)) hF hT, Or.inl h11, cci_fr rfl (fun c k h => sbl_f c k (by omega)) hF hC⟩
  rcases hD with h | ⟨s, g, n, hd, hg⟩
  · exact Or.inl (did_fr (fun _ => rfl) ⟨rfl, rfl⟩ hF h)
  · refine Or.inr ⟨s, g, n, dac_fr (fun _ => rfl) ⟨rfl, rfl, rfl, rfl, rfl, rfl, rfl, rfl⟩ hF hd, ?_⟩
    rcases hg with ⟨a, b, c, d⟩ | ⟨a, b, c⟩
    · exact Or.inl ⟨(hF 31 19 rfl).1.trans a, (hF 0 10 rfl).1.trans b, c, d⟩
    · exact Or.inr ⟨(hF 31 19 rfl).1.trans a, by rw [(hF 31 21 rfl).1]; exact b, c⟩
/-- the reference names the quotas that clash -/
theorem m_blk {A : Ab} {se : Nat → Nat} {sM gM i : Nat} {z : St} {Q : Int32 → St → Prop} (h : IV A se sM gM z) (hi : i < 2147483648) (hle : (GN A).1 ≤ 1001) (hcn : cnA A = 0) (hQ : ∀ z', IV A se sM gM z' → z'.2 49 0 = z.2 49 0 → z'.1 31 0 = r2 (cl A 12).2.2.2 → Q (if (cl A 12).2.2.2 = true then 0 else rsA A 12 i) z') : P_M_blocked (jI i) z Q := by
  have hW := h.1.1
  refine ⟨fun _ => m_counts hW (iv_rm h) (iv_rc h) (fun _ z1 hF1 e11 hR hB => ⟨fun _ => ex1 ⟨fun _ => ⟨by unfold vp_in; decide, fun _ => ?_, fun hn => absurd ?_ hn⟩, fun h => absurd (show (0 : Int32) ≤ 0 by decide) h⟩, fun h => absurd h (by decide)⟩) (fun h => by omega), fun h => absurd (jI_0le hi) h⟩
  · have h2 := iv_ref h (z' := wI z1 31 0 0) (fz_I (fz_mono hF1 sw1_sw0) rfl) (Or.inr ⟨e11, rok_0fr hR⟩)
    have o49 : (wI z1 31 0 0).2 49 0 = z.2 49 0 := (hF1 49 0 rfl).2
    have e0 : (wI z1 31 0 0).1 31 0 = 0 := rfl
    generalize wI z1 31 0 0 = z2 at h2 o49 e0 ⊢
    refine m_l48 (fun z3 hF3 h46 => ?_)
    have rM3 : RM A z3 := rm_fr ⟨rfl, rfl, fun _ => rfl, fun _ => rfl, fun _ => rfl, fun _ => rfl, fun _ => rfl⟩ hF3 (iv_rm h2)
    refine m_left hW hi rM3 ((hF3 31 0 rfl).1.trans e0) (fun z4 hL => ?_)
    obtain ⟨hF4, h40, _⟩ := hL
    refine m_l92 (fun z5 hF5 h35 => ex1 ?_)
    have hF : Fz Sbl z2 (wI z5 31 11 0) := by
      refine fz_I (fz_trans (fz_mono hF3 (fun c k e => ?_)) (fz_trans (fz_mono hF4 (fun c k e => ?_)) (fz_mono hF5 (fun c k e => ?_)))) rfl
      · simp only [Bool.or_eq_false_iff] at e ⊢
        exact ⟨e.2.2.1, e.2.2.2.1⟩
      · simp only [Bool.or_eq_false_iff] at e ⊢
        exact ⟨e.1, e.2.1, e.2.2.2.2.1, e.2.2.2.2.2.2⟩
      · simp only [Bool.or_eq_false_iff] at e ⊢
        exact ⟨e.1, e.2.1⟩
    have rq : RQ A (wI z5 31 11 0) := by
      refine ⟨fun q hq => ?_, fun q hq => ?_⟩
      · exact (h35 q hq).1.trans ((hF4 46 q rfl).1.trans ((h46 q hq).1.trans (h2.1.2.1.2.2.2.2.1.1 q hq)))
      · exact (h35 q hq).2.trans ((hF4 47 q rfl).1.trans ((h46 q hq).2.trans (h2.1.2.1.2.2.2.2.1.2 q hq)))
    have h5 := iv_bl h2 hF rq rfl
    have e05 : (wI z5 31 11 0).1 31 0 = r2 (cl A 12).2.2.2 := (hF5 31 0 rfl).1.trans h40
    have o5 : (wI z5 31 11 0).2 49 0 = z.2 49 0 := (hF 49 0 rfl).2.trans o49
    have hq := hQ _ h5 o5 e05
    rw [e05]
    cases hb : (cl A 12).2.2.2 with
    | true =>
      rw [hb, if_pos rfl] at hq
      exact ⟨fun h => absurd h n2_0, fun _ => hq⟩
    | false =>
      rw [hb, if_neg (by decide)] at hq
      exact ⟨fun _ => hq, fun h => absurd (show (0 : Int32) ≤ 0 by decide) h⟩
  · show z1.2 41 0 ≤ 0
    rw [rab_0 hW hB, hcn]; decide
theorem c_blocked {x1 x2 x3 x4 v4 : Int32} {z : St} {K : St → Prop} (hI : Inv z) (hK : ∀ z', Inv z' → K z') : B_8 x1 x2 x3 x4 v4 z K := by
  obtain ⟨A, se, sM, gM, h⟩ := id hI
  have hW := h.1.1
  have hcnl := cn_le hW
  have er : ∀ (y : Int32) (z1 : St), Inv z1 → ¬ y ≤ 0 → ¬ y = 0 → J_M_blocked_21 (fun (y47 : Int32) (z46 : St) => P_M_thrown z46 (fun (y49 : Int32) (z48 : St) => ((y49 = y) → ((¬ y = 0) → K z48) ∧ ((y = 0) → vp_in (0 : Int32) 1 ∧ (((z48.2 49 (0 : Int32).toNatClampNeg) = y47.toInt64) → K z48) ∧ ((¬ (z48.2 49 (0 : Int32).toNatClampNeg) = y47.toInt64) → False))) ∧ ((¬ y49 = y) → False))) x1 y z1 := fun y z1 h1 hy hy0 => ex1 ⟨fun h => absurd h hy, fun _ => law_same (hK _ (inv_e h1)) rfl (fun h => absurd h hy0)⟩
  unfold B_8 P_L_blocked P_O_blocked
  refine ⟨fun a => ?_, fun a => Or.inl ⟨rfl, fun b => absurd b a, fun _ => er 1 z hI n1_0 (by decide)⟩⟩
  obtain ⟨i, hi, rfl⟩ := i32_nn (i32_nlt.mpr a)
  refine o_countable h (fun hle z1 hF1 h1 e10 hT hb => ?_) (fun hgt z1 hF1 h1 => Or.inr ⟨rfl, fun _ => m_counts hW (iv_rm h1) (iv_rc h1) (fun h => by omega) (fun _ z2 hF2 e11 hR => ⟨fun h => absurd rfl h, fun _ => er 2 z2 ⟨A, se, sM, gM, iv_ref h1 (fz_mono hF2 sw1_sw0) (Or.inr ⟨e11, hR⟩)⟩ n2_0 (by decide)⟩), fun b => absurd a b⟩)
  have e14 : z1.2 14 (0 : Int32).toNatClampNeg = jL (cnA A) := tab_0 hW hT
  have hle0 : (z1.2 14 (0 : Int32).toNatClampNeg ≤ 0) ↔ cnA A = 0 := by
    rw [e14, show (0 : Int64) = jL 0 from rfl, jL_le (by omega) (by decide)]; omega
  -- the names stand: both sides answer
  have fin : cnA A = 0 → ∀ z3, IV A se sM gM z3 → COK A z3 → J_O_blocked_54 (fun (x2 : Int32) (z1 : St) => vp_in (0 : Int32) 1 ∧ ∀ z3 : St, z3 = wL z1 49 (0 : Int32).toNatClampNeg x2.toInt64 → P_M_blocked (jI i) z3 (fun (y47 : Int32) (z46 : St) => P_M_thrown z46 (fun (y49 : Int32) (z48 : St) => ((y49 = 0) → ((¬ (0 : Int32) = 0) → K z48) ∧ (((0 : Int32) = 0) → vp_in (0 : Int32) 1 ∧ (((z48.2 49 (0 : Int32).toNatClampNeg) = y47.toInt64) → K z48) ∧ ((¬ (z48.2 49 (0 : Int32).toNatClampNeg) = y47.toInt64) → False))) ∧ ((¬ y49 = 0) → False)))) (fun (k : Nat) (z1 : St) => (k = 0 ∧ P_M_blocked (jI i) z1 (fun (y47 : Int32) (z46 : St) => P_M_thrown z46 (fun (y49 : Int32) (z48 : St) => ((y49 = 1) → ((¬ (1 : Int32) = 0) → K z48) ∧ (((1 : Int32) = 0) → vp_in (0 : Int32) 1 ∧ (((z48.2 49 (0 : Int32).toNatClampNeg) = y47.toInt64) → K z48) ∧ ((¬ (z48.2 49 (0 : Int32).toNatClampNeg) = y47.toInt64) → False))) ∧ ((¬ y49 = 1) → False)))) ∨ (k = 3 ∧ P_M_blocked (jI i) z1 (fun (y47 : Int32) (z46 : St) => P_M_thrown z46 (fun (y49 : Int32) (z48 : St) => ((y49 = 2) → ((¬ (2 : Int32) = 0) → K z48) ∧ (((2 : Int32) = 0) → vp_in (0 : Int32) 1 ∧ (((z48.2 49 (0 : Int32).toNatClampNeg) = y47.toInt64) → K z48) ∧ ((¬ (z48.2 49 (0 : Int32).toNatClampNeg) = y47.toInt64) → False))) ∧ ((¬ y49 = 2) → False))))) (jI i) z3 := by
    intro hcn z3 h3 hC
    obtain ⟨c5, crest⟩ := hC
    have zb5 : zb (z3.1 20 5) := by rw [c5]; exact bI_zb _
    cases hb : (cl A 12).2.2.2 with
    | true =>
      rw [hb] at c5
      refine ⟨zb5, fun h => absurd (h.symm.trans c5) (by decide), fun _ => Or.inr ⟨rfl, ?_⟩⟩
      refine m_blk h3 hi hle hcn (fun z4 h4 _ e0 => law_same (hK _ ⟨A, se, sM, gM, h4⟩) (e0.trans (by rw [hb]; rfl)) (fun h => absurd h (by decide)))
    | false =>
      rw [hb] at c5
      obtain ⟨c4, c24⟩ := crest hb
      obtain ⟨l, u, eB, k1, k2, k3⟩ := cl_inv hW 12
      have ans : ∀ x : Int32, x = rsA A 12 i → vp_in (0 : Int32) 1 ∧ ∀ z5 : St, z5 = wL z3 49 (0 : Int32).toNatClampNeg x.toInt64 → P_M_blocked (jI i) z5 (fun (y47 : Int32) (z46 : St) => P_M_thrown z46 (fun (y49 : Int32) (z48 : St) => ((y49 = 0) → ((¬ (0 : Int32) = 0) → K z48) ∧ (((0 : Int32) = 0) → vp_in (0 : Int32) 1 ∧ (((z48.2 49 (0 : Int32).toNatClampNeg) = y47.toInt64) → K z48) ∧ ((¬ (z48.2 49 (0 : Int32).toNatClampNeg) = y47.toInt64) → False))) ∧ ((¬ y49 = 0) → False))) := by
        intro x hx
        subst hx
        refine ⟨vp_0, ex1 (m_blk (iv_out h3) hi hle hcn (fun z4 h4 o4 e0 => law_same (hK _ ⟨A, se, sM, gM, h4⟩) (e0.trans (by rw [hb]; rfl)) (fun _ => ?_)))⟩
        rw [o4, hb, if_neg (by decide)]; rfl
      refine ⟨zb5, fun _ => ⟨fun h => absurd h (i32_nlt.mpr a), fun _ => ⟨fun h => ans _ ?_, fun h => ?_⟩⟩, fun h => absurd c5 h⟩
      · rw [c4, jI_le (by omega) hi] at h
        unfold rsA; rw [if_neg (by omega)]
      · rw [c4, jI_le (by omega) hi] at h
        refine ⟨vp_n (by omega) (by decide), ans _ ?_⟩
        rw [jI_tn hi, c24 i (by omega)]
        unfold rsA; rw [if_pos (by omega)]
  refine ⟨by unfold vp_in; decide, fun h0 => ?_, fun h0 => ⟨vp_0, ex1 ?_⟩⟩
  · have hcn := hle0.mp h0
    refine ⟨fun hne => ?_, fun heq => ?_⟩
    · rcases h1.2.2.2.2.2 with hc | ⟨_, hc⟩
      · exact absurd hc hne
      · exact fin hcn z1 h1 hc
    · obtain ⟨⟨oK, oP, oV, oQ, oS⟩, _⟩ := id h1.1.2.1
      rw [show z1.1 0 8 = jI (sZ A) from oS]
      refine s_find hW oK oV oQ h1.1.2.2.2.1 h1.2.1 (fun z2 hC => ex1 (ex1 ?_))
      obtain ⟨hF2, e17, c5, c4, c24, _⟩ := hC
      have hk : Fz Sk z1 (wI (wI z2 0 11 1) 0 10 0) := by
        refine fz_I (fz_I (fz_mono hF2 (fun c k e => ?_)) rfl) rfl
        simp only [Bool.or_eq_false_iff, Bool.and_eq_false_iff, decide_eq_false_iff_not, beq_eq_false_iff_ne] at e ⊢
        exact ⟨e.1, by omega, by omega, by omega, Or.inl (by omega)⟩
      have hfr : Fz (fun c k => Sf c k || (c == 0 && (k == 10 || k == 11))) z1 (wI (wI z2 0 11 1) 0 10 0) := by
        refine fz_I (fz_I (fz_mono hF2 (fun c k e => ?_)) rfl) rfl
        rw [Bool.or_eq_false_iff] at e; exact e.1
      have ff : ∀ c k, 24 < c → (fun c k => Sf c k || (c == 0 && (k == 10 || k == 11))) c k = false := by
        intro c k hc
        simp only [Bool.or_eq_false_iff, Bool.and_eq_false_iff, decide_eq_false_iff_not, beq_eq_false_iff_ne]
        exact ⟨⟨by omega, by omega, by omega, by omega, Or.inl (by omega)⟩, Or.inl (by omega)⟩
      have cok : COK A (wI (wI z2 0 11 1) 0 10 0) := ⟨c5, fun _ => ⟨c4, c24⟩⟩
      refine fin hcn _ ⟨bas_fr hk h1.1, e17, ?_, Or.inl rfl, rci_fr ⟨rfl, rfl, rfl⟩ (fun c k a b => ff c k (by omega)) hfr h1.2.2.2.2.1, Or.inr ⟨rfl, cok⟩⟩ cok
      rcases h1.2.2.1 with hd | ⟨s, g, n, hd, hg⟩
      · exact Or.inl (did_fr (fun k => ff 25 k (by decide)) ⟨rfl, rfl⟩ hfr hd)
      · rcases hg with ⟨_, _, _, d⟩ | ⟨a', b', c'⟩
        · obtain ⟨_, _, _, _, _, a5, _⟩ := hd
          omega
        · exact Or.inr ⟨s, g, n, dac_fr (fun k => ff 25 k (by decide)) ⟨rfl, rfl, rfl, rfl, rfl, rfl, rfl, rfl⟩ hfr hd, Or.inr ⟨(hfr 31 19 rfl).1.trans a', by rw [(hfr 31 21 rfl).1]; exact b', c'⟩⟩
  · have h1' : IV A se sM gM (wL z1 49 (0 : Int32).toNatClampNeg (-1 : Int32).toInt64) := iv_out h1
    refine ⟨fun _ => m_counts hW (iv_rm h1') (iv_rc h1') (fun _ z2 hF2 e11 hR hB => ⟨fun _ => ex1 ⟨fun _ => ⟨by unfold vp_in; decide, fun hz => absurd ?_ h0, fun _ => ?_⟩, fun h => absurd (show (0 : Int32) ≤ 0 by decide) h⟩, fun h => absurd h (by decide)⟩) (fun h => by omega), fun b => absurd a b⟩
    · have hz' : z2.2 41 0 ≤ 0 := hz
      rw [rab_0 hW hB] at hz'
      rw [e14]; exact hz'
    · exact law_same (hK _ ⟨A, se, sM, gM, iv_ref h1' (z' := wI z2 31 0 0) (fz_I (fz_mono hF2 sw1_sw0) rfl) (Or.inr ⟨e11, rok_0fr hR⟩)⟩) rfl (fun _ => (hF2 49 0 rfl).2)
