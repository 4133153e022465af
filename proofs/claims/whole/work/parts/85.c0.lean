/-! The cases: trait, person, quota, size, reset, kind, mark, member, number. -/
theorem inv_e {z : St} {y : Int32} (h : Inv z) : Inv (wI z 31 0 y) := inv_fr (fz_I fz_rfl rfl) h
theorem inv_chg {A A' : Ab} {se : Nat → Nat} {sM gM : Nat} {z z' : St} (h : IV A se sM gM z) (hnd : z.1 31 19 = 0) (hW : WF A') (hP : Pool A' z') (hn : aN A' = aN A) (hF : Fz Sx z z') (hc : Chg z') : Inv z' := by
  obtain ⟨⟨hW0, hP0, ⟨m, m1, m2, m3⟩, hp, hS⟩, h17, hD, hT, hR, hC⟩ := h
  obtain ⟨c1, c2, c3, c4, c5, c6, c7⟩ := hc
  refine ⟨A', se, sM, gM, ⟨hW, hP, ⟨m, (hF 0 9 rfl).2.trans m1, by rw [hn]; exact m2, fun p hp => (hF 33 p rfl).1.trans (m3 p (by rw [← hn]; exact hp))⟩, pas_fr (fun _ => rfl) hF hp, ?_⟩, (hF 17 0 rfl).1.trans h17, Or.inl ⟨c1, c2, c6, c7⟩, Or.inl c3, Or.inl c5, Or.inl c4⟩
  rcases hS with ⟨a, b, c, d, e, f, g⟩ | ⟨a, _⟩
  · exact Or.inl ⟨(hF 26 5 rfl).1.trans a, (hF 26 6 rfl).2.trans b, (hF 26 7 rfl).2.trans c, (hF 26 8 rfl).1.trans d, (hF 31 19 rfl).1.trans e, (hF 31 21 rfl).1.trans f, fun p hp => (hF 45 p rfl).1.trans (g p (by rw [← hn]; exact hp))⟩
  · exact absurd (hnd.symm.trans a) (by decide)
theorem c_trait {x1 x2 x3 x4 v4 : Int32} {z : St} {K : St → Prop} (hI : Inv z) (hK : ∀ z', Inv z' → K z') : B_0 x1 x2 x3 x4 v4 z K := by
  obtain ⟨A, se, sM, gM, h⟩ := id hI
  exact b_trait h.1.1 h.1.2.1 (sei_dr h.1.1 h.1.2.2.2.2) (fun y => hK _ (inv_e hI)) (fun hnd A' z' hW' hP' hn hF hc => hK z' (inv_chg h hnd hW' hP' hn hF hc))
theorem c_quota {x1 x2 x3 x4 v4 : Int32} {z : St} {K : St → Prop} (hI : Inv z) (hK : ∀ z', Inv z' → K z') : B_2 x1 x2 x3 x4 v4 z K := by
  obtain ⟨A, se, sM, gM, h⟩ := id hI
  exact b_quota h.1.1 h.1.2.1 (sei_dr h.1.1 h.1.2.2.2.2) (fun y => hK _ (inv_e hI)) (fun hnd A' z' hW' hP' hn hF hc => hK z' (inv_chg h hnd hW' hP' hn hF hc))
theorem c_size {x1 x2 x3 x4 v4 : Int32} {z : St} {K : St → Prop} (hI : Inv z) (hK : ∀ z', Inv z' → K z') : B_3 x1 x2 x3 x4 v4 z K := by
  obtain ⟨A, se, sM, gM, h⟩ := id hI
  exact b_size h.1.1 h.1.2.1 (sei_dr h.1.1 h.1.2.2.2.2) (fun y => hK _ (inv_e hI)) (fun hnd A' z' hW' hP' hn hF hc => hK z' (inv_chg h hnd hW' hP' hn hF hc))
theorem c_person {x1 x2 x3 x4 v4 : Int32} {z : St} {K : St → Prop} (hI : Inv z) (hK : ∀ z', Inv z' → K z') : B_1 x1 x2 x3 x4 v4 z K := by
  obtain ⟨A, se, sM, gM, h⟩ := id hI
  refine b_person h.1.1 h.1.2.1 (sei_dr h.1.1 h.1.2.2.2.2) (fun z' hF hP => hK z' ?_) (fun hnd A' z' hW' hP' hn hF h33 e33 e45 hc => hK z' ?_)
  · obtain ⟨⟨hW0, hP0, hM, hp, hS⟩, h17, hD, hT, hR, hC⟩ := h
    have f : ∀ c k, c ≠ 32 → c ≠ 31 → Se c k = false := by
      intro c k h1 h2
      simp only [Bool.or_eq_false_iff, Bool.and_eq_false_iff, beq_eq_false_iff_ne]
      exact ⟨h1, Or.inl h2⟩
    refine ⟨A, se, sM, gM, ⟨hW0, hP, mki_fr rfl (fun _ => rfl) hF hM, pas_fr (fun _ => rfl) hF hp, sei_fr (fun _ => rfl) (fun _ => rfl) (fun _ => rfl) (fun _ => rfl) ⟨rfl, rfl⟩ hF hS⟩, (hF 17 0 rfl).1.trans h17, ?_, tci_fr rfl (fun c k h1 h2 => f c k (by omega) (by omega)) hF hT, rci_fr ⟨rfl, rfl, rfl⟩ (fun c k h1 h2 => f c k (by omega) (by omega)) hF hR, cci_fr rfl (fun c k h => f c k (by omega) (by omega)) hF hC⟩
    rcases hD with h | ⟨s, g, n, hd, hg⟩
    · exact Or.inl (did_fr (fun _ => rfl) ⟨rfl, rfl⟩ hF h)
    · refine Or.inr ⟨s, g, n, dac_fr (fun _ => rfl) ⟨rfl, rfl, rfl, rfl, rfl, rfl, rfl, rfl⟩ hF hd, ?_⟩
      rcases hg with ⟨a, b, c, d⟩ | ⟨a, b, c⟩
      · exact Or.inl ⟨(hF 31 19 rfl).1.trans a, (hF 0 10 rfl).1.trans b, c, d⟩
      · exact Or.inr ⟨(hF 31 19 rfl).1.trans a, by rw [(hF 31 21 rfl).1]; exact b, c⟩
  · obtain ⟨⟨hW0, hP0, ⟨m, m1, m2, m3⟩, hp, hS⟩, h17, hD, hT, hR, hC⟩ := h
    obtain ⟨c1, c2, c3, c4, c5, c6, c7⟩ := hc
    refine ⟨A', se, sM, gM, ⟨hW', hP', ⟨m, (hF 0 9 rfl).2.trans m1, by rw [hn]; exact Nat.lt_of_lt_of_le m2 (Nat.pow_le_pow_right (by decide) (Nat.le_succ _)), fun p hp => ?_⟩, pas_fr (fun _ => rfl) hF hp, ?_⟩, (hF 17 0 rfl).1.trans h17, Or.inl ⟨c1, c2, c6, c7⟩, Or.inl c3, Or.inl c5, Or.inl c4⟩
    · by_cases e : p = aN A
      · subst e
        show z'.1 33 (aN A) = bI (m.testBit (aN A))
        rw [e33, Nat.testBit_lt_two_pow m2]; rfl
      · rw [(h33 p e).1]; exact m3 p (by omega)
    · rcases hS with ⟨a, b, c, d, e, f, g⟩ | ⟨a, _⟩
      · refine Or.inl ⟨(hF 26 5 rfl).1.trans a, (hF 26 6 rfl).2.trans b, (hF 26 7 rfl).2.trans c, (hF 26 8 rfl).1.trans d, (hF 31 19 rfl).1.trans e, (hF 31 21 rfl).1.trans f, fun p hp => ?_⟩
        by_cases e2 : p = aN A
        · subst e2; exact e45
        · rw [(h33 p e2).2]; exact g p (by omega)
      · exact absurd (hnd.symm.trans a) (by decide)
/-! reset -/
abbrev Sz : Nat → Nat → Bool := fun c _ => (decide (1 ≤ c) && decide (c ≤ 8)) || ((decide (32 ≤ c) && decide (c ≤ 38)) || (c == 0 || (c == 25 || (c == 26 || (c == 31 || c == 45)))))
theorem s_fills {z : St} {Q : St → Prop} (h : ∀ z', Fz Sz z z' → (∀ t, t < 3 → z'.1 2 t = 1) → (∀ q, q < 12 → z'.1 7 q = 0 ∧ z'.1 8 q = 8) → z'.1 1 4 = 0 → z'.1 1 5 = 0 → Q z') : P_P_clear z (fun z1 => P_Q_clear z1 Q) := by
  have l4 : ∀ (Q : St → Prop), (∀ z', Fz Sz z z' → (∀ t, t < 3 → z'.1 2 t = 1) → Q z') → ∀ (d i : Nat) (z' : St), i + d = 3 → Fz Sz z z' → (∀ t, t < i → z'.1 2 t = 1) → L_A_fill4_5 Q (d + 1) 1 (jI i) (3 : Int32) z' := by
    intro Q hQ d
    induction d with
    | zero =>
      intro i z' hi hF hv
      refine ⟨fun _ => hQ z' hF (fun t ht => hv t (by omega)), fun hn => absurd ?_ hn⟩
      rw [show (3 : Int32) = jI 3 from rfl, jI_le (by decide) (by omega)]; omega
    | succ d ih =>
      intro i z' hi hF hv
      refine ⟨fun hn => absurd hn ?_, fun _ => ⟨vp_n (by omega) (by decide), ex1 (ex1 ?_)⟩⟩
      · rw [show (3 : Int32) = jI 3 from rfl, jI_le (by decide) (by omega)]; omega
      rw [jI_tn (by omega), jI_s]
      refine ih (i + 1) _ (by omega) (fz_I hF rfl) (fun t ht => ?_)
      by_cases e : t = i
      · subst e; exact zI_at
      · rw [zI_ne e]; exact hv t (by omega)
  refine ⟨_, l4 _ (fun z1 hz1 h1 => ex1 (ex1 ?_)) 3 0 z (by omega) fz_rfl (fun t ht => absurd ht (Nat.not_lt_zero t))⟩
  generalize hz2 : wI (wI z1 1 4 0) 1 5 0 = z2
  have hF2 : Fz Sz z z2 := by rw [← hz2]; exact fz_I (fz_I hz1 rfl) rfl
  have e2 : ∀ t, t < 3 → z2.1 2 t = 1 := by rw [← hz2]; exact h1
  have e14 : z2.1 1 4 = 0 := by rw [← hz2]; rfl
  have e15 : z2.1 1 5 = 0 := by rw [← hz2]; rfl
  have l5 : ∀ (Q : St → Prop), (∀ z', Fz Sz z z' → (∀ t, t < 3 → z'.1 2 t = 1) → z'.1 1 4 = 0 → z'.1 1 5 = 0 → (∀ q, q < 12 → z'.1 7 q = 0) → Q z') → ∀ (d i : Nat) (z' : St), i + d = 12 → Fz Sz z z' → (∀ t, t < 3 → z'.1 2 t = 1) → z'.1 1 4 = 0 → z'.1 1 5 = 0 → (∀ q, q < i → z'.1 7 q = 0) → L_A_fill5_5 Q (d + 1) 0 (jI i) (12 : Int32) z' := by
    intro Q hQ d
    induction d with
    | zero =>
      intro i z' hi hF a b c hv
      refine ⟨fun _ => hQ z' hF a b c (fun t ht => hv t (by omega)), fun hn => absurd ?_ hn⟩
      rw [show (12 : Int32) = jI 12 from rfl, jI_le (by decide) (by omega)]; omega
    | succ d ih =>
      intro i z' hi hF a b c hv
      refine ⟨fun hn => absurd hn ?_, fun _ => ⟨vp_n (by omega) (by decide), ex1 (ex1 ?_)⟩⟩
      · rw [show (12 : Int32) = jI 12 from rfl, jI_le (by decide) (by omega)]; omega
      rw [jI_tn (by omega), jI_s]
      refine ih (i + 1) _ (by omega) (fz_I hF rfl) a b c (fun t ht => ?_)
      by_cases e : t = i
      · subst e; exact zI_at
      · rw [zI_ne e]; exact hv t (by omega)
  have l6 : ∀ (Q : St → Prop), (∀ z', Fz Sz z z' → (∀ t, t < 3 → z'.1 2 t = 1) → z'.1 1 4 = 0 → z'.1 1 5 = 0 → (∀ q, q < 12 → z'.1 7 q = 0) → (∀ q, q < 12 → z'.1 8 q = 8) → Q z') → ∀ (d i : Nat) (z' : St), i + d = 12 → Fz Sz z z' → (∀ t, t < 3 → z'.1 2 t = 1) → z'.1 1 4 = 0 → z'.1 1 5 = 0 → (∀ q, q < 12 → z'.1 7 q = 0) → (∀ q, q < i → z'.1 8 q = 8) → L_A_fill6_5 Q (d + 1) 8 (jI i) (12 : Int32) z' := by
    intro Q hQ d
    induction d with
    | zero =>
      intro i z' hi hF a b c a7 hv
      refine ⟨fun _ => hQ z' hF a b c a7 (fun t ht => hv t (by omega)), fun hn => absurd ?_ hn⟩
      rw [show (12 : Int32) = jI 12 from rfl, jI_le (by decide) (by omega)]; omega
    | succ d ih =>
      intro i z' hi hF a b c a7 hv
      refine ⟨fun hn => absurd hn ?_, fun _ => ⟨vp_n (by omega) (by decide), ex1 (ex1 ?_)⟩⟩
      · rw [show (12 : Int32) = jI 12 from rfl, jI_le (by decide) (by omega)]; omega
      rw [jI_tn (by omega), jI_s]
      refine ih (i + 1) _ (by omega) (fz_I hF rfl) a b c a7 (fun t ht => ?_)
      by_cases e : t = i
      · subst e; exact zI_at
      · rw [zI_ne e]; exact hv t (by omega)
  refine ⟨_, l5 _ (fun z3 hz3 a b c a7 => ?_) 12 0 z2 (by omega) hF2 e2 e14 e15 (fun q hq => absurd hq (Nat.not_lt_zero q))⟩
  exact ⟨_, l6 _ (fun z4 hz4 a b c a7 a8 => h z4 hz4 a (fun q hq => ⟨a7 q hq, a8 q hq⟩) b c) 12 0 z3 (by omega) hz3 a b c a7 (fun q hq => absurd hq (Nat.not_lt_zero q))⟩
/-- an office with nobody in it -/
def A0 : Ab := (0, fun _ => 0, 0, fun _ => 0, fun _ => 0, fun _ => 1, fun _ => 0, fun _ => 8, 1)
theorem wf_0 : WF A0 := ⟨by decide, by decide, ⟨fun j k _ hk => absurd hk (Nat.not_lt_zero k), fun k hk => absurd hk (Nat.not_lt_zero k), fun p hp => absurd hp (Nat.not_lt_zero p)⟩, fun p hp => absurd hp (Nat.not_lt_zero p), fun t _ => ⟨Nat.le_refl 1, (by decide : 1 ≤ 4)⟩, fun q _ => ⟨Nat.zero_le _, Nat.le_refl 8⟩, Nat.le_refl 1, (by decide : 1 ≤ 8)⟩
theorem m_rs27 {z : St} {K Q : St → Prop} (h : ∀ z', Fz (fun c _ => c == 34) z z' → (∀ t, t < 3 → z'.1 34 t = 1) → K z') : ∃ n, L_M_reset_27 K Q n 0 z := by
  have loop : ∀ (d i : Nat) (z' : St), i + d = 3 → Fz (fun c _ => c == 34) z z' → (∀ t, t < i → z'.1 34 t = 1) → L_M_reset_27 K Q (d + 1) (jI i) z' := by
    intro d
    induction d with
    | zero =>
      intro i z' hi hF hv
      refine ⟨fun _ => h z' hF (fun t ht => hv t (by omega)), fun hn => absurd ?_ hn⟩
      rw [show (3 : Int32) = jI 3 from rfl, jI_le (by decide) (by omega)]; omega
    | succ d ih =>
      intro i z' hi hF hv
      refine ⟨fun hn => absurd hn ?_, fun _ => ⟨vp_n (by omega) (by decide), ex1 (ex1 ?_)⟩⟩
      · rw [show (3 : Int32) = jI 3 from rfl, jI_le (by decide) (by omega)]; omega
      rw [jI_tn (by omega), jI_s]
      refine ih (i + 1) _ (by omega) (fz_I hF rfl) (fun t ht => ?_)
      by_cases e : t = i
      · subst e; exact zI_at
      · rw [zI_ne e]; exact hv t (by omega)
  exact ⟨_, loop 3 0 z (by omega) fz_rfl (fun t ht => absurd ht (Nat.not_lt_zero t))⟩
theorem m_rs47 {z : St} {K Q : St → Prop} (h : ∀ z', Fz (fun c _ => c == 35 || c == 36) z z' → (∀ q, q < 12 → z'.1 35 q = 0 ∧ z'.1 36 q = 8) → K z') : ∃ n, L_M_reset_47 K Q n 0 z := by
  have loop : ∀ (d i : Nat) (z' : St), i + d = 12 → Fz (fun c _ => c == 35 || c == 36) z z' → (∀ q, q < i → z'.1 35 q = 0 ∧ z'.1 36 q = 8) → L_M_reset_47 K Q (d + 1) (jI i) z' := by
    intro d
    induction d with
    | zero =>
      intro i z' hi hF hv
      refine ⟨fun _ => h z' hF (fun t ht => hv t (by omega)), fun hn => absurd ?_ hn⟩
      rw [show (12 : Int32) = jI 12 from rfl, jI_le (by decide) (by omega)]; omega
    | succ d ih =>
      intro i z' hi hF hv
      refine ⟨fun hn => absurd hn ?_, fun _ => ⟨vp_n (by omega) (by decide), ex1 ⟨vp_n (by omega) (by decide), ex1 (ex1 ?_)⟩⟩⟩
      · rw [show (12 : Int32) = jI 12 from rfl, jI_le (by decide) (by omega)]; omega
      rw [jI_tn (by omega), jI_s]
      refine ih (i + 1) _ (by omega) (fz_I (fz_I hF rfl) rfl) (fun t ht => ?_)
      by_cases e : t = i
      · subst e; exact ⟨zI_at (z := z') (c := 35), zI_at (z := wI z' 35 t 0) (c := 36)⟩
      · exact ⟨(zI_ne (z := z') (c := 35) e).trans (hv t (by omega)).1, (zI_ne (z := wI z' 35 i 0) (c := 36) e).trans (hv t (by omega)).2⟩
  exact ⟨_, loop 12 0 z (by omega) fz_rfl (fun t ht => absurd ht (Nat.not_lt_zero t))⟩
theorem m_rs76 {z : St} {K Q : St → Prop} (h : ∀ z', Fz (fun c _ => c == 33 || c == 45) z z' → K z') : ∃ n, L_M_reset_76 K Q n 0 z := by
  have loop : ∀ (d i : Nat) (z' : St), i + d = 40 → Fz (fun c _ => c == 33 || c == 45) z z' → L_M_reset_76 K Q (d + 1) (jI i) z' := by
    intro d
    induction d with
    | zero =>
      intro i z' hi hF
      refine ⟨fun _ => h z' hF, fun hn => absurd ?_ hn⟩
      rw [show (40 : Int32) = jI 40 from rfl, jI_le (by decide) (by omega)]; omega
    | succ d ih =>
      intro i z' hi hF
      refine ⟨fun hn => absurd hn ?_, fun _ => ⟨vp_n (by omega) (by decide), ex1 ⟨vp_n (by omega) (by decide), ex1 (ex1 ?_)⟩⟩⟩
      · rw [show (40 : Int32) = jI 40 from rfl, jI_le (by decide) (by omega)]; omega
      rw [jI_tn (by omega), jI_s]
      exact ih (i + 1) _ (by omega) (fz_I (fz_I hF rfl) rfl)
  exact ⟨_, loop 40 0 z (by omega) fz_rfl⟩
theorem c_reset {x1 x2 x3 x4 v4 : Int32} {z : St} {K : St → Prop} (hI : Inv z) (hK : ∀ z', Inv z' → K z') : B_21 x1 x2 x3 x4 v4 z K := by
  obtain ⟨A, se, sM, gM, ⟨hW0, hP0, hM, hp, hS⟩, h17, hD, hT, hR, hC⟩ := hI
  refine s_fills (fun z1 hz1 h2 h78 h14 h15 => ex1 (ex1 (ex1 (ex1 (ex1 (ex1 (ex1 (ex1 (ex1 (ex1 (ex1 (ex1 (ex1 (ex1 (ex1 ?_)))))))))))))))
  generalize hz2 : wI (wI (wI (wI (wI (wI (wI (wI (wI (wL (wI (wI (wL (wL (wI z1 26 5 0) 26 6 0) 26 7 0) 26 8 (-1)) 0 8 1) 0 9 0) 25 0 0) 25 1 0) 0 10 0) 0 11 0) 31 0 0) 31 1 0) 31 7 1) 31 19 0) 31 21 (-1) = z2
  have f18 : ∀ k, z2.1 18 k = z.1 18 k := by intro k; rw [← hz2]; exact (hz1 18 k rfl).1
  have f17 : z2.1 17 0 = z.1 17 0 := by rw [← hz2]; exact (hz1 17 0 rfl).1
  have g2 : ∀ t, t < 3 → z2.1 2 t = 1 := by rw [← hz2]; exact h2
  have g78 : ∀ q, q < 12 → z2.1 7 q = 0 ∧ z2.1 8 q = 8 := by rw [← hz2]; exact h78
  have g14 : z2.1 1 4 = 0 := by rw [← hz2]; exact h14
  have g15 : z2.1 1 5 = 0 := by rw [← hz2]; exact h15
  have c265 : z2.1 26 5 = 0 := by rw [← hz2]; rfl
  have c266 : z2.2 26 6 = 0 := by rw [← hz2]; rfl
  have c267 : z2.2 26 7 = 0 := by rw [← hz2]; rfl
  have c268 : z2.1 26 8 = -1 := by rw [← hz2]; rfl
  have c08 : z2.1 0 8 = 1 := by rw [← hz2]; rfl
  have c09 : z2.2 0 9 = 0 := by rw [← hz2]; rfl
  have c250 : z2.1 25 0 = 0 := by rw [← hz2]; rfl
  have c251 : z2.1 25 1 = 0 := by rw [← hz2]; rfl
  have c010 : z2.1 0 10 = 0 := by rw [← hz2]; rfl
  have c011 : z2.1 0 11 = 0 := by rw [← hz2]; rfl
  have c311 : z2.1 31 1 = 0 := by rw [← hz2]; rfl
  have c317 : z2.1 31 7 = 1 := by rw [← hz2]; rfl
  have c3119 : z2.1 31 19 = 0 := by rw [← hz2]; rfl
  have c3121 : z2.1 31 21 = -1 := by rw [← hz2]; rfl
  refine m_rs27 (fun z3 hz3 e34 => m_rs47 (fun z4 hz4 e356 => m_rs76 (fun z5 hz5 => ?_)))
  have t : ∀ c k, c ≠ 33 → c ≠ 34 → c ≠ 35 → c ≠ 36 → c ≠ 45 → z5.1 c k = z2.1 c k ∧ z5.2 c k = z2.2 c k := by
    intro c k n33 n34 n35 n36 n45
    have a := hz5 c k (by rw [Bool.or_eq_false_iff, beq_eq_false_iff_ne, beq_eq_false_iff_ne]; exact ⟨n33, n45⟩)
    have b := hz4 c k (by rw [Bool.or_eq_false_iff, beq_eq_false_iff_ne, beq_eq_false_iff_ne]; exact ⟨n35, n36⟩)
    have d := hz3 c k (by rw [beq_eq_false_iff_ne]; exact n34)
    exact ⟨a.1.trans (b.1.trans d.1), a.2.trans (b.2.trans d.2)⟩
  refine m_changed (A := A0) wf_0 ⟨(t 31 1 (by decide) (by decide) (by decide) (by decide) (by decide)).1.trans c311, fun p hp => absurd hp (Nat.not_lt_zero p)⟩ (fun z6 hz6 hRK e1 e2 e3 => hK z6 ?_)
  have u : ∀ c k, Sc c k = false → c ≠ 33 → c ≠ 34 → c ≠ 35 → c ≠ 36 → c ≠ 45 → z6.1 c k = z2.1 c k ∧ z6.2 c k = z2.2 c k := fun c k e n33 n34 n35 n36 n45 => ⟨(hz6 c k e).1.trans (t c k n33 n34 n35 n36 n45).1, (hz6 c k e).2.trans (t c k n33 n34 n35 n36 n45).2⟩
  have w : ∀ c k, Sc c k = false → (c ≠ 33 ∧ c ≠ 34 ∧ c ≠ 35 ∧ c ≠ 36 ∧ c ≠ 45) → z6.1 c k = z2.1 c k ∧ z6.2 c k = z2.2 c k := fun c k e h => u c k e h.1 h.2.1 h.2.2.1 h.2.2.2.1 h.2.2.2.2
  refine ⟨A0, fun _ => 0, 0, 0, ⟨wf_0, ⟨⟨⟨(w 1 5 rfl (by decide)).1.trans g15, fun k hk => absurd hk (Nat.not_lt_zero k), fun k hk => absurd hk (Nat.not_lt_zero k)⟩, ⟨(w 1 4 rfl (by decide)).1.trans g14, fun p hp => absurd hp (Nat.not_lt_zero p)⟩, fun t ht => (w 2 t rfl (by decide)).1.trans (g2 t ht), ⟨fun q hq => (w 7 q rfl (by decide)).1.trans (g78 q hq).1, fun q hq => (w 8 q rfl (by decide)).1.trans (g78 q hq).2⟩, (w 0 8 rfl (by decide)).1.trans c08⟩, hRK, ⟨(w 31 1 rfl (by decide)).1.trans c311, fun p hp => absurd hp (Nat.not_lt_zero p)⟩, fun t ht => ?_, ⟨fun q hq => ?_, fun q hq => ?_⟩, (w 31 7 rfl (by decide)).1.trans c317⟩, ⟨0, (w 0 9 rfl (by decide)).2.trans c09, by decide, fun p hp => absurd hp (Nat.not_lt_zero p)⟩, ?_, Or.inl ⟨(w 26 5 rfl (by decide)).1.trans c265, (w 26 6 rfl (by decide)).2.trans c266, (w 26 7 rfl (by decide)).2.trans c267, (w 26 8 rfl (by decide)).1.trans c268, (w 31 19 rfl (by decide)).1.trans c3119, (w 31 21 rfl (by decide)).1.trans c3121, fun p hp => absurd hp (Nat.not_lt_zero p)⟩⟩, (w 17 0 rfl (by decide)).1.trans (f17.trans h17), Or.inl ⟨(w 25 0 rfl (by decide)).1.trans c250, (w 25 1 rfl (by decide)).1.trans c251, e2, e3⟩, Or.inl ((w 0 10 rfl (by decide)).1.trans c010), Or.inl e1, Or.inl ((w 0 11 rfl (by decide)).1.trans c011)⟩
  · exact (hz6 34 t rfl).1.trans ((hz5 34 t rfl).1.trans ((hz4 34 t rfl).1.trans (e34 t ht)))
  · exact (hz6 35 q rfl).1.trans ((hz5 35 q rfl).1.trans (e356 q hq).1)
  · exact (hz6 36 q rfl).1.trans ((hz5 36 q rfl).1.trans (e356 q hq).2)
  · intro n k hn hk
    rw [(w 18 _ rfl (by decide)).1, f18]; exact hp n k hn hk
