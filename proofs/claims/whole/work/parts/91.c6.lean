/-! The case: draw. -/
def mkm (g : Nat → Nat) : Nat → Nat
  | 0 => 0
  | n + 1 => mkm g n ||| 2 ^ g n
theorem mkm_bit {g : Nat → Nat} {p : Nat} : ∀ {n : Nat}, (mkm g n).testBit p = true ↔ ∃ i, i < n ∧ g i = p
  | 0 => ⟨fun h => by
      have h' : (0 : Nat).testBit p = true := h
      rw [Nat.zero_testBit] at h'; exact absurd h' (by decide), fun ⟨i, h, _⟩ => absurd h (Nat.not_lt_zero i)⟩
  | n + 1 => by
    show (mkm g n ||| 2 ^ g n).testBit p = true ↔ _
    rw [Nat.testBit_or, Bool.or_eq_true, mkm_bit, Nat.testBit_two_pow, decide_eq_true_iff]
    constructor
    · rintro (⟨i, hi, e⟩ | e)
      · exact ⟨i, by omega, e⟩
      · exact ⟨n, by omega, e⟩
    · rintro ⟨i, hi, e⟩
      by_cases c : i = n
      · subst c; exact Or.inr e
      · exact Or.inl ⟨i, by omega, e⟩
theorem mkm_lt {g : Nat → Nat} : ∀ {n : Nat}, (∀ i, i < n → g i < 40) → mkm g n < 2 ^ 40
  | 0, _ => by show 0 < 2 ^ 40; decide
  | n + 1, h => or_lt (mkm_lt (fun i hi => h i (by omega))) (Nat.pow_lt_pow_right (by decide) (h n (by omega)))
abbrev Sfl : Nat → Nat → Bool := fun c k => c == 27 || (c == 26 && (k == 5 || k == 6))
theorem s_sfill {sz : Nat} {g : Nat → Nat} {z : St} {Q : St → Prop} (h8 : sz ≤ 8) (hg : ∀ i, i < sz → g i < 40) (h30 : ∀ i, i < sz → z.1 30 i = jI (g i)) (h6 : z.2 26 6 = 0) (hQ : ∀ z', Fz Sfl z z' → z'.1 26 5 = jI sz → (∀ i, i < sz → z'.1 27 i = jI (g i)) → z'.2 26 6 = jL (mkm g sz) → Q z') : P_S_fill (jI sz) z Q := by
  unfold P_S_fill
  rw [show (8 : Int32) = jI 8 from rfl, mmin_j (by omega) (by decide), Nat.min_eq_left h8]
  have loop : ∀ (d i : Nat) (z' : St), i + d = sz → Fz Sfl z z' → z'.1 26 5 = jI sz → (∀ j, j < i → z'.1 27 j = jI (g j)) → z'.2 26 6 = jL (mkm g i) → L_S_fill_12 Q (d + 1) (jI i) z' := by
    intro d
    induction d with
    | zero =>
      intro i z' hi hz e5 e27 e6
      have hi' : i = sz := by omega
      subst hi'
      refine ⟨fun _ => hQ z' hz e5 e27 e6, fun h => absurd ?_ h⟩
      rw [e5]; exact Int32.le_refl _
    | succ d ih =>
      intro i z' hi hz e5 e27 e6
      have e30 : z'.1 30 i = jI (g i) := (hz 30 i rfl).1.trans (h30 i (by omega))
      have gl := hg i (by omega)
      refine ⟨fun h => absurd h ?_, fun _ => ?_⟩
      · rw [e5, jI_le (by omega) (by omega)]; omega
      rw [jI_tn (by omega), e30]
      refine ⟨vp_n (by omega) (by decide), vp_n (by omega) (by decide), ex1 ⟨vp_n (by omega) (by decide), ex1 (ex1 ?_)⟩⟩
      rw [show (wI z' 27 i (jI (g i))).1 30 i = jI (g i) from e30, show (wI z' 27 i (jI (g i))).2 26 6 = jL (mkm g i) from e6, sh_63 _ (by omega), sh_1 _ (by omega), jL_or, jI_s]
      refine ih (i + 1) _ (by omega) (fz_L (fz_I hz rfl) rfl) e5 (fun j hj => ?_) rfl
      show (wI z' 27 i (jI (g i))).1 27 j = jI (g j)
      by_cases e : j = i
      · subst e; exact zI_at
      · rw [zI_ne e]; exact e27 j (by omega)
  exact ex1 ⟨_, loop sz 0 _ (by omega) (fz_I fz_rfl rfl) rfl (fun j hj => absurd hj (Nat.not_lt_zero j)) h6⟩
abbrev Sdr : Nat → Nat → Bool := fun c k => c == 25 || (c == 26 || (c == 27 || (c == 30 || (c == 44 || (c == 48 || (Sw1 c k || (c == 31 && (k == 0 || (k == 19 || (k == 21 || (k == 23 || (k == 29 || k == 34))))))))))))
theorem sdr_f (c k : Nat) (h : c < 25 ∨ c = 28 ∨ c = 29 ∨ (31 < c ∧ c < 39) ∨ c = 45) : Sdr c k = false := by
  simp only [Bool.or_eq_false_iff, Bool.and_eq_false_iff, beq_eq_false_iff_ne]
  exact ⟨by omega, by omega, by omega, by omega, by omega, by omega, ⟨Or.inl (by omega), by omega, by omega, by omega, by omega, by omega, Or.inl (by omega)⟩, Or.inl (by omega)⟩
theorem inv_draw {A : Ab} {se se' : Nat → Nat} {sM gM sM' gM' : Nat} {z z' : St} (h : IV A se sM gM z) (hF : Fz Sdr z z') (hS : SEI A se' sM' gM' z') (hD : DID z') (hr : RCI A z') : Inv z' := by
  obtain ⟨⟨hW0, hP0, hM, hp, _⟩, h17, _, hT, _, hC⟩ := h
  exact ⟨A, se', sM', gM', ⟨hW0, pool_fr (fun c k h1 h2 => sdr_f c k (by omega)) rfl (fun c k h1 h2 => sdr_f c k (by omega)) ⟨rfl, rfl, rfl⟩ hF hP0, mki_fr rfl (fun _ => rfl) hF hM, pas_fr (fun _ => rfl) hF hp, hS⟩, (hF 17 0 rfl).1.trans h17, Or.inl hD, tci_fr rfl (fun c k h1 h2 => sdr_f c k (by omega)) hF hT, hr, cci_fr rfl (fun c k h => sdr_f c k (by omega)) hF hC⟩
theorem s_tell2 {A : Ab} {v : Nat} {x : Int64} {z : St} {Q : St → Prop} (hx : x = jL v) (hW : WF A) (oK : OK A z) (oP : OP A z) (hT : TAB A z) (hP : Pas (z.1 18)) (hv : v < cnA A) (hQ : ∀ z', Fz S30 z z' → G30 (sZ A) (tlA A v) z' → Q z') : P_R_tell x z Q := by
  rw [hx]; exact s_tell hW oK oP hT hP hv hQ
theorem c_draw {x1 x2 x3 x4 v4 : Int32} {z : St} {K : St → Prop} (hI : Inv z) (hK : ∀ z', Inv z' → K z') : B_15 x1 x2 x3 x4 v4 z K := by
  obtain ⟨A, se, sM, gM, h⟩ := id hI
  have hW := h.1.1
  have i8 := hW.2.2.2.2.2.2.2
  have h40 := hW.1
  obtain ⟨⟨oK, oP, oV, oQ, oS⟩, rK, rP, rV, rQ, rS⟩ := id h.1.2.1
  have hdr := sei_dr hW h.1.2.2.2.2
  have er : J_M_draw_20 (fun (z88 : St) => P_M_thrown z88 (fun (y90 : Int32) (z89 : St) => ((y90 = 1) → K z89) ∧ ((¬ y90 = 1) → False))) 1 z := ex1 ⟨fun h => absurd h n1_0, fun _ => law_code (hK _ (inv_e hI)) rfl⟩
  refine ⟨fun hop => ⟨fun _ => ?_, fun h => absurd rfl h⟩, fun hcl => ⟨fun h => absurd h (by decide), fun _ => ⟨rfl, fun _ => er, fun h => absurd h (hdr.elim (fun h => absurd h.1 hcl) (fun h => h.2))⟩⟩⟩
  have hnd : z.1 31 19 = 0 := hdr.elim (fun h => h.2) (fun h => absurd hop h.1)
  rcases id h.1.2.2.2.2 with ⟨d5, d6, d7, d8, d19, d21, d45⟩ | ⟨d19, _⟩
  · have no : z.1 31 29 = 0 → P_M_draw z (fun (z88 : St) => P_M_thrown z88 (fun (y90 : Int32) (z89 : St) => ((y90 = 1) → K z89) ∧ ((¬ y90 = 1) → False))) := fun e => ⟨fun h => absurd hnd h, fun _ => ⟨fun h => absurd e h, fun _ => er⟩⟩
    rcases id h.2.2.1 with ⟨_, e1, _, e29⟩ | ⟨s, g, n, hd, hg⟩
    · exact ⟨Or.inl e1, fun h => absurd e1 h, fun _ => ⟨rfl, no e29⟩⟩
    · obtain ⟨a0, a1, a2, a3, a4, a5, a6, a7, a8, a9, a10, a11, a12, a13, a14, a15⟩ := id hd
      rcases a15 with ⟨c1, c2, _⟩ | ⟨c1, c2, v, hv, c7, c30⟩
      · exact ⟨Or.inl c1, fun h => absurd c1 h, fun _ => ⟨rfl, no c2⟩⟩
      · rcases hg with ⟨_, g10, gle, gg⟩ | ⟨g19, _⟩
        · have hT : TAB A z := by
            rcases h.2.2.2.1 with h0 | ⟨_, hO, _⟩
            · exact absurd (h0.symm.trans g10) (by decide)
            · rcases hO with ⟨_, b⟩ | ⟨_, _, c⟩
              · omega
              · exact c
          have hvc : v < cnA A := by omega
          have hpd := tlA_pd hW hvc
          refine ⟨Or.inr c1, fun _ => ?_, fun h => absurd (h.symm.trans c1) (by decide)⟩
          refine s_tell2 c7 hW oK oP hT h.1.2.2.2.1 hvc (fun z1 hF1 hG => ?_)
          rw [show z1.1 0 8 = jI (sZ A) from (hF1 0 8 rfl).1.trans oS]
          refine s_sfill i8 (fun i hi => by have := hpd.1 i hi; omega) hG ((hF1 26 6 rfl).2.trans d6) (fun z2 hF2 f5 f27 f6 => ex1 (ex1 ?_))
          generalize hz3 : wI (wI z2 25 0 0) 25 1 0 = z3
          have hF3 : Fz Sdr z z3 := by
            rw [← hz3]
            refine fz_I (fz_I (fz_trans (fz_mono hF1 (fun c k e => ?_)) (fz_mono hF2 (fun c k e => ?_))) rfl) rfl
            · simp only [Bool.or_eq_false_iff, Bool.and_eq_false_iff, beq_eq_false_iff_ne] at e ⊢
              exact e.2.2.2.1
            · simp only [Bool.or_eq_false_iff, Bool.and_eq_false_iff, beq_eq_false_iff_ne] at e ⊢
              exact ⟨e.2.2.1, Or.inl e.2.1⟩
          have t5 : z3.1 26 5 = jI (sZ A) := by rw [← hz3]; exact f5
          have t27 : ∀ i, i < sZ A → z3.1 27 i = jI (tlA A v i) := by rw [← hz3]; exact f27
          have t6 : z3.2 26 6 = jL (mkm (tlA A v) (sZ A)) := by rw [← hz3]; exact f6
          have t7 : z3.2 26 7 = 0 := by rw [← hz3]; exact (hF2 26 7 rfl).2.trans ((hF1 26 7 rfl).2.trans d7)
          have t8 : z3.1 26 8 = -1 := by rw [← hz3]; exact (hF2 26 8 rfl).1.trans ((hF1 26 8 rfl).1.trans d8)
          have t250 : z3.1 25 0 = 0 := by rw [← hz3]; rfl
          have t251 : z3.1 25 1 = 0 := by rw [← hz3]; rfl
          have t31 : ∀ k, z3.1 31 k = z.1 31 k ∧ z3.2 31 k = z.2 31 k := by
            intro k
            rw [← hz3]
            exact ⟨(hF2 31 k rfl).1.trans (hF1 31 k rfl).1, (hF2 31 k rfl).2.trans (hF1 31 k rfl).2⟩
          have tc : ∀ c k, 31 < c → z3.1 c k = z.1 c k ∧ z3.2 c k = z.2 c k := by
            intro c k hc
            rw [← hz3]
            have s30 : S30 c k = false := by rw [beq_eq_false_iff_ne]; omega
            have sfl : Sfl c k = false := by
              simp only [Bool.or_eq_false_iff, Bool.and_eq_false_iff, beq_eq_false_iff_ne]
              exact ⟨by omega, Or.inl (by omega)⟩
            have e1 : (wI (wI z2 25 0 0) 25 1 0).1 c k = z2.1 c k := by
              show (if c = 25 then _ else (if c = 25 then _ else _)) = _
              rw [if_neg (by omega), if_neg (by omega)]
            exact ⟨e1.trans ((hF2 c k sfl).1.trans (hF1 c k s30).1), (hF2 c k sfl).2.trans (hF1 c k s30).2⟩
          -- the reference draws
          have hz4 : Fz (fun c k => decide (c ≤ 30) || (c == 31 && k == 0)) z (wI z3 31 0 0) := by
            intro c k e
            simp only [Bool.or_eq_false_iff, Bool.and_eq_false_iff, decide_eq_false_iff_not, beq_eq_false_iff_ne] at e
            by_cases c31 : c = 31
            · subst c31
              have hk : k ≠ 0 := by omega
              exact ⟨(zI_ne hk).trans (t31 k).1, (t31 k).2⟩
            · have e1 : (wI z3 31 0 0).1 c k = z3.1 c k := by
                show (if c = 31 then _ else _) = _
                rw [if_neg c31]
              exact ⟨e1.trans (tc c k (by omega)).1, (tc c k (by omega)).2⟩
          have rM4 : RM A (wI z3 31 0 0) := rm_fr ⟨rfl, rfl, fun _ => rfl, fun _ => rfl, fun _ => rfl, fun _ => rfl, fun _ => rfl⟩ hz4 (iv_rm h)
          have rC4 : (wI z3 31 0 0).1 31 11 = 0 ∨ ROK A (wI z3 31 0 0) := (iv_rc h).imp (fun h => (hz4 31 11 rfl).1.trans h) (fun h => rok_fr ⟨rfl, rfl, fun _ => rfl, fun _ => rfl, fun _ => rfl⟩ ⟨fun _ => rfl, fun _ => rfl⟩ hz4 h)
          have rP4 : RP A (wI z3 31 0 0) := rp_fr ⟨rfl, fun _ => rfl⟩ hz4 rP
          have n29 : ¬ z3.1 31 29 = 0 := by rw [(t31 29).1, c2]; decide
          refine ⟨fun h => absurd ((t31 19).1.trans hnd) h, fun _ => ⟨fun _ => ex1 ⟨fun _ => m_counts hW rM4 rC4 (fun _ z5 hF5 e11 hR hB => ?_) (fun h => by omega), fun h => absurd (show (0 : Int32) ≤ 0 by decide) h⟩, fun h => absurd h n29⟩⟩
          have e30 : z5.2 31 30 = jL v := (hF5 31 30 rfl).2.trans ((hz4 31 30 rfl).2.trans c30)
          rw [e30]
          refine m_take hW (rm_sw1 hF5 rM4).1 (rp_sw1 hF5 rP4) hB hvc (fun z6 hF6 h48 => ?_)
          have rS6 : z6.1 31 7 = jI (sZ A) := (hF6 31 7 rfl).1.trans ((hF5 31 7 rfl).1.trans rM4.2.2.2)
          have l46 : ∀ (K : St → Prop) (Q : St → Prop), (∀ z', Fz (fun c _ => c == 44) z6 z' → (∀ i, i < sZ A → z'.1 44 i = jI (tlA A v i)) → K z') → ∀ (d i : Nat) (z' : St), i + d = sZ A → Fz (fun c _ => c == 44) z6 z' → (∀ j, j < i → z'.1 44 j = jI (tlA A v j)) → L_M_draw_46 K Q (d + 1) (jI i) z' := by
            intro K Q hK d
            induction d with
            | zero =>
              intro i z' hi hz hj
              refine ⟨fun _ => hK z' hz (fun j hj' => hj j (by omega)), fun h => absurd ?_ h⟩
              rw [(hz 31 7 rfl).1, rS6, jI_le (by omega) (by omega)]; omega
            | succ d ih =>
              intro i z' hi hz hj
              refine ⟨fun h => absurd h ?_, fun _ => ⟨vp_n (by omega) (by decide), vp_n (by omega) (by decide), ex1 (ex1 ?_)⟩⟩
              · rw [(hz 31 7 rfl).1, rS6, jI_le (by omega) (by omega)]; omega
              rw [jI_tn (by omega), (hz 48 i rfl).1, h48 i (by omega), jI_s]
              refine ih (i + 1) _ (by omega) (fz_I hz rfl) (fun j hj' => ?_)
              by_cases e : j = i
              · subst e; exact zI_at
              · rw [zI_ne e]; exact hj j (by omega)
          refine ⟨_, l46 _ _ (fun z7 hF7 h44 => ex1 (ex1 (ex1 (ex1 ?_)))) (sZ A) 0 z6 (by omega) fz_rfl (fun j hj => absurd hj (Nat.not_lt_zero j))⟩
          generalize hz8 : wI (wI (wI (wI z7 31 19 1) 31 21 (-1)) 31 23 0) 31 29 0 = z8
          have u : ∀ c k, c ≠ 31 → z8.1 c k = z7.1 c k ∧ z8.2 c k = z7.2 c k := by
            intro c k hc
            rw [← hz8]
            refine ⟨?_, rfl⟩
            show (if c = 31 then _ else (if c = 31 then _ else (if c = 31 then _ else (if c = 31 then _ else _)))) = _
            rw [if_neg hc, if_neg hc, if_neg hc, if_neg hc]
          have hF8 : Fz Sdr z3 z8 := by
            rw [← hz8]
            refine fz_I (fz_I (fz_I (fz_I (fz_trans (fz_trans (fz_I fz_rfl rfl) (fz_mono hF5 (fun c k e => ?_))) (fz_trans (fz_mono hF6 (fun c k e => ?_)) (fz_mono hF7 (fun c k e => ?_)))) rfl) rfl) rfl) rfl
            · simp only [Bool.or_eq_false_iff] at e ⊢
              exact e.2.2.2.2.2.2.1
            · simp only [Bool.or_eq_false_iff, Bool.and_eq_false_iff, beq_eq_false_iff_ne] at e ⊢
              exact ⟨e.2.2.2.2.2.1, e.2.2.2.2.2.2.2.imp id (fun h => h.2.2.2.2.2)⟩
            · simp only [Bool.or_eq_false_iff, Bool.and_eq_false_iff, beq_eq_false_iff_ne] at e ⊢
              exact e.2.2.2.2.1
          -- what class cells hold at the end
          have w : ∀ c k, Sw1 c k = false → S48 c k = false → c ≠ 44 → c ≠ 31 → z8.1 c k = z3.1 c k ∧ z8.2 c k = z3.2 c k := by
            intro c k e1 e2 e3 e4
            have a := u c k e4
            have b := hF7 c k (by rw [beq_eq_false_iff_ne]; exact e3)
            have d := hF6 c k e2
            have f := hF5 c k e1
            have g1 : (wI z3 31 0 0).1 c k = z3.1 c k := by
              show (if c = 31 then _ else _) = _
              rw [if_neg e4]
            exact ⟨a.1.trans (b.1.trans (d.1.trans (f.1.trans g1))), a.2.trans (b.2.trans (d.2.trans f.2))⟩
          have r0 : z8.1 31 0 = 0 := by
            rw [← hz8]
            exact (hF7 31 0 rfl).1.trans ((hF6 31 0 rfl).1.trans (hF5 31 0 rfl).1)
          have mlt := mkm_lt (g := tlA A v) (n := sZ A) (fun i hi => by have := hpd.1 i hi; omega)
          refine law_code (hK _ (inv_draw (se' := fun i => tlA A v i + 1) (sM' := mkm (tlA A v) (sZ A)) (gM' := 0) h (fz_trans hF3 hF8) (Or.inr ⟨?_, gle, ⟨?_, fun i hi => ⟨?_, ?_⟩, fun i hi => hpd.1 i hi, fun i i' hi hi' e _ => hpd.2 i i' hi hi' (Nat.succ.inj e)⟩, ⟨?_, ?_, mlt, by decide, fun p hp => ?_, fun p hp => ?_⟩, Or.inl ⟨?_, ?_⟩⟩) ⟨?_, ?_, ?_, ?_⟩ (Or.inr ⟨?_, ?_⟩))) r0
          · rw [← hz8]; rfl
          · exact (w 26 5 rfl rfl (by decide) (by decide)).1.trans t5
          · exact (w 27 i rfl rfl (by decide) (by decide)).1.trans (t27 i hi)
          · exact (u 44 i (by decide)).1.trans (h44 i hi)
          · exact (w 26 6 rfl rfl (by decide) (by decide)).2.trans t6
          · exact (w 26 7 rfl rfl (by decide) (by decide)).2.trans t7
          · rw [mkm_bit]
            exact ⟨fun ⟨i, hi, e⟩ => ⟨i, hi, by show tlA A v i + 1 = p + 1; rw [e]⟩, fun ⟨i, hi, e⟩ => ⟨i, hi, Nat.succ.inj e⟩⟩
          · rw [(w 45 p rfl rfl (by decide) (by decide)).1, (tc 45 p (by decide)).1, d45 p hp, Nat.zero_testBit]; rfl
          · exact (w 26 8 rfl rfl (by decide) (by decide)).1.trans t8
          · rw [← hz8]; rfl
          · exact (w 25 0 rfl rfl (by decide) (by decide)).1.trans t250
          · exact (w 25 1 rfl rfl (by decide) (by decide)).1.trans t251
          · rw [← hz8]; rfl
          · rw [← hz8]; rfl
          · rw [← hz8]
            exact (hF7 31 11 rfl).1.trans ((hF6 31 11 rfl).1.trans e11)
          · have hR7 : ROK A z7 := rok_fr ⟨rfl, rfl, fun _ => rfl, fun _ => rfl, fun _ => rfl⟩ ⟨fun _ => rfl, fun _ => rfl⟩ hF7 (rok_fr ⟨rfl, rfl, fun _ => rfl, fun _ => rfl, fun _ => rfl⟩ ⟨fun _ => rfl, fun _ => rfl⟩ hF6 hR)
            rw [← hz8]
            exact rok_fr (S := fun c k => c == 31 && (k == 19 || (k == 21 || (k == 23 || k == 29)))) ⟨rfl, rfl, fun _ => rfl, fun _ => rfl, fun _ => rfl⟩ ⟨fun _ => rfl, fun _ => rfl⟩ (fz_I (fz_I (fz_I (fz_I fz_rfl rfl) rfl) rfl) rfl) hR7
        · exact absurd (hnd.symm.trans g19) (by decide)
  · exact absurd (hnd.symm.trans d19) (by decide)
