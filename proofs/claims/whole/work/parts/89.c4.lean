/-! The cases: panel, dice. -/
theorem c_panel {x1 x2 x3 x4 v4 : Int32} {z : St} {K : St → Prop} (hI : Inv z) (hK : ∀ z', Inv z' → K z') : B_9 x1 x2 x3 x4 v4 z K := by
  obtain ⟨A, se, sM, gM, h⟩ := id hI
  have hW := h.1.1
  obtain ⟨⟨oK, oP, oV, oQ, oS⟩, rK, rP, rV, rQ, rS⟩ := id h.1.2.1
  have i8 := hW.2.2.2.2.2.2.2
  unfold B_9 P_L_panel P_O_panel
  generalize (x1.toInt64 <<< ((32 : Int32).toInt64 &&& 63)) ||| (x2.toInt64 &&& (4294967295 : Int64)) = E
  have er : ∀ (y : Int32) (z1 : St), Inv z1 → ¬ y ≤ 0 → ¬ y = 0 → J_M_panel_50 (fun (y53 : Int32) (z52 : St) => P_M_thrown z52 (fun (y55 : Int32) (z54 : St) => ((y55 = y) → ((¬ y = 0) → K z54) ∧ ((y = 0) → vp_in (0 : Int32) 1 ∧ (((z54.2 49 (0 : Int32).toNatClampNeg) = y53.toInt64) → K z54) ∧ ((¬ (z54.2 49 (0 : Int32).toNatClampNeg) = y53.toInt64) → False))) ∧ ((¬ y55 = y) → False))) E x3 y z1 := fun y z1 h1 hy hy0 => ex1 ⟨fun h => absurd h hy, fun _ => law_same (hK _ (inv_e h1)) rfl (fun h => absurd h hy0)⟩
  have c08 : ∀ z1, IV A se sM gM z1 → z1.1 31 7 = z1.1 0 8 := fun z1 h1 => by rw [show z1.1 31 7 = jI (sZ A) from h1.1.2.1.2.2.2.2.2, show z1.1 0 8 = jI (sZ A) from h1.1.2.1.1.2.2.2.2]
  refine ⟨fun a => Or.inl ⟨rfl, fun _ => er 1 z hI n1_0 (by decide), fun b => absurd a b⟩, fun a => ⟨fun b => ?_, fun b => Or.inl ⟨rfl, fun c => absurd c a, fun _ => ⟨fun c => absurd (by rw [← c08 z h]; exact c) b, fun _ => er 1 z hI n1_0 (by decide)⟩⟩⟩⟩
  obtain ⟨n, hn, rfl⟩ := i32_nn a
  have hn8 : n < sZ A := by rw [show z.1 0 8 = jI (sZ A) from oS, jI_lt hn (by omega)] at b; exact b
  have lt7 : ∀ z1, IV A se sM gM z1 → jI n < z1.1 31 7 := fun z1 h1 => by rw [show z1.1 31 7 = jI (sZ A) from h1.1.2.1.2.2.2.2.2, jI_lt hn (by omega)]; exact hn8
  have hcn := cn_le hW
  refine o_countable h (fun hle z1 hF1 h1 e10 hT hb => ?_) (fun hgt z1 hF1 h1 => Or.inr ⟨rfl, fun c => absurd c a, fun _ => ⟨fun _ => m_counts hW (iv_rm h1) (iv_rc h1) (fun h => by omega) (fun _ z2 hF2 e11 hR => ⟨fun h => absurd rfl h, fun _ => er 2 z2 ⟨A, se, sM, gM, iv_ref h1 (fz_mono hF2 sw1_sw0) (Or.inr ⟨e11, hR⟩)⟩ n2_0 (by decide)⟩), fun c => absurd (lt7 z1 h1) c⟩⟩)
  -- the reference's answer when all can be counted
  have ref : ∀ (z1 : St) (Q : Int32 → St → Prop), IV A se sM gM z1 → (¬ (E < 0 ∨ ¬ E < jL (cnA A)) → ∀ z2, Fz Sw1 z1 z2 → IV A se sM gM z2 → RAB A z2 → J_M_panel_50 Q E (jI n) 0 z2) → ((E < 0 ∨ ¬ E < jL (cnA A)) → ∀ z2, IV A se sM gM z2 → J_M_panel_50 Q E (jI n) 1 z2) → P_M_panel E (jI n) z1 Q := by
    intro z1 Q h1 good bad
    refine ⟨fun c => absurd c a, fun _ => ⟨fun _ => m_counts hW (iv_rm h1) (iv_rc h1) (fun _ z2 hF2 e11 hR hB => ⟨fun _ => ?_, fun h => absurd h (by decide)⟩) (fun h => by omega), fun c => absurd (lt7 z1 h1) c⟩⟩
    have h2 := iv_ref h1 (fz_mono hF2 sw1_sw0) (Or.inr ⟨e11, hR⟩)
    refine ⟨fun c => bad (Or.inl c) z2 h2, fun c => ⟨by unfold vp_in; decide, fun d => good (fun h => ?_) z2 hF2 h2 hB, fun d => bad (Or.inr ?_) z2 h2⟩⟩
    · rcases h with h | h
      · exact c h
      · rw [show z2.2 41 (0 : Int32).toNatClampNeg = jL (cnA A) from rab_0 hW hB] at d; exact h d
    · rw [show z2.2 41 (0 : Int32).toNatClampNeg = jL (cnA A) from rab_0 hW hB] at d; exact d
  have e14 : z1.2 14 (0 : Int32).toNatClampNeg = jL (cnA A) := tab_0 hW hT
  refine ⟨fun c => Or.inl ⟨rfl, ref z1 _ h1 (fun h => absurd (Or.inl c) h) (fun _ z2 h2 => er 1 z2 ⟨A, se, sM, gM, h2⟩ n1_0 (by decide))⟩, fun c => ⟨by unfold vp_in; decide, fun d => ?_, fun d => Or.inl ⟨rfl, ref z1 _ h1 (fun h => absurd (Or.inr (by rw [← e14]; exact d)) h) (fun _ z2 h2 => er 1 z2 ⟨A, se, sM, gM, h2⟩ n1_0 (by decide))⟩⟩⟩
  obtain ⟨v, hv, rfl⟩ := i64_nn c
  rw [e14, jL_lt hv (by omega)] at d
  obtain ⟨⟨oK1, oP1, _, _, _⟩, rK1, rP1, _⟩ := id h1.1.2.1
  refine s_tell hW oK1 oP1 hT h1.1.2.2.2.1 d (fun z2 hF2 hG => ⟨vp_n (by omega) (by decide), vp_0, ex1 ?_⟩)
  rw [jI_tn hn, hG n hn8]
  have h2 : IV A se sM gM (wL z2 49 (0 : Int32).toNatClampNeg (jI (tlA A v n)).toInt64) := by
    refine iv_out (iv_fr (fz_mono hF2 (fun c k e => ?_)) h1)
    simp only [Bool.or_eq_false_iff, Bool.and_eq_false_iff, decide_eq_false_iff_not, beq_eq_false_iff_ne] at e ⊢
    omega
  refine ref _ _ h2 (fun _ z3 hF3 h3 hB => ex1 ⟨fun _ => ?_, fun h => absurd (show (0 : Int32) ≤ 0 by decide) h⟩) (fun h => absurd h (fun h => h.elim c (fun h => h ((jL_lt hv (by omega)).mpr d))))
  refine m_take (z := wI z3 31 0 0) hW h3.1.2.1.2.1 h3.1.2.1.2.2.1 (rab_0fr hB) d (fun z4 hF4 h48 => ⟨vp_n (by omega) (by decide), ?_⟩)
  rw [jI_tn hn, h48 n hn8]
  have h4 : IV A se sM gM z4 := by
    refine iv_fr (fz_mono hF4 (fun c k e => ?_)) (iv_fr (z' := wI z3 31 0 0) (fz_I fz_rfl rfl) h3)
    simp only [Bool.or_eq_false_iff, Bool.and_eq_false_iff, decide_eq_false_iff_not, beq_eq_false_iff_ne] at e ⊢
    exact ⟨by omega, e.2.2.imp id (fun h => h.2)⟩
  refine law_same (hK _ ⟨A, se, sM, gM, h4⟩) ((hF4 31 0 rfl).1) (fun _ => ?_)
  rw [(hF4 49 0 rfl).2]
  exact (hF3 49 0 rfl).2
/-! The dice are set. -/
def dn (s g : Nat) : Nat → Nat → Nat
  | 0, n => n
  | d + 1, n => if g ≤ s ^ n then n else dn s g d (n + 1)
theorem dn_spec {s g : Nat} (hs : 2 ≤ s) (hg : g ≤ 2 ^ 27) : ∀ {d n : Nat}, n + d = 27 → (n = 0 ∨ s ^ (n - 1) < g) → dn s g d n ≤ 27 ∧ g ≤ s ^ dn s g d n ∧ (dn s g d n = 0 ∨ s ^ (dn s g d n - 1) < g)
  | 0, n, h, hp => by
    have e : n = 27 := by omega
    subst e
    exact ⟨Nat.le_refl _, Nat.le_trans hg (Nat.pow_le_pow_left hs 27), hp⟩
  | d + 1, n, h, hp => by
    show (if g ≤ s ^ n then n else dn s g d (n + 1)) ≤ 27 ∧ g ≤ s ^ (if g ≤ s ^ n then n else dn s g d (n + 1)) ∧ ((if g ≤ s ^ n then n else dn s g d (n + 1)) = 0 ∨ s ^ ((if g ≤ s ^ n then n else dn s g d (n + 1)) - 1) < g)
    by_cases c : g ≤ s ^ n
    · rw [if_pos c]; exact ⟨by omega, c, hp⟩
    · rw [if_neg c]
      exact dn_spec hs hg (d := d) (n := n + 1) (by omega) (Or.inr (by rw [show n + 1 - 1 = n by omega]; omega))
def nD (s g : Nat) : Nat := dn s g 27 0
theorem nD_spec {s g : Nat} (hs : 2 ≤ s) (hs2 : s ≤ 20) (hg : g ≤ 2 ^ 27) (hg1 : 1 ≤ g) : nD s g ≤ 27 ∧ g ≤ s ^ nD s g ∧ s ^ nD s g < 4611686018427387904 ∧ (nD s g = 0 → g = 1) := by
  have h := dn_spec hs hg (d := 27) (n := 0) rfl (Or.inl rfl)
  refine ⟨h.1, h.2.1, ?_, fun e => ?_⟩
  · show s ^ dn s g 27 0 < _
    rcases h.2.2 with e | e
    · rw [e, Nat.pow_zero]; decide
    · obtain ⟨m, hm⟩ : ∃ m, dn s g 27 0 = m ∨ dn s g 27 0 = m + 1 := ⟨dn s g 27 0 - 1, by omega⟩
      by_cases c : dn s g 27 0 = 0
      · rw [c, Nat.pow_zero]; decide
      · have e2 : s ^ dn s g 27 0 = s ^ (dn s g 27 0 - 1) * s := by rw [← Nat.pow_succ, show (dn s g 27 0 - 1).succ = dn s g 27 0 by omega]
        rw [e2]
        have : s ^ (dn s g 27 0 - 1) * s ≤ 2 ^ 27 * 20 := Nat.mul_le_mul (by omega) hs2
        exact Nat.lt_of_le_of_lt this (by decide)
  · have h2 : g ≤ s ^ dn s g 27 0 := h.2.1
    have e' : dn s g 27 0 = 0 := e
    rw [e', Nat.pow_zero] at h2; omega
theorem pw_lt {s g n : Nat} (hs : 2 ≤ s) (hs2 : s ≤ 20) (hg : g ≤ 2 ^ 27) (hn : ¬ g ≤ s ^ n) : n < 27 ∧ s ^ n < 134217728 := by
  refine ⟨?_, by have : (2 : Nat) ^ 27 = 134217728 := rfl; omega⟩
  by_cases c : n < 27
  · exact c
  · have h1 := Nat.pow_le_pow_left hs n
    have h2 := Nat.pow_le_pow_right (n := 2) (by decide) (show 27 ≤ n by omega)
    omega
abbrev S25 : Nat → Nat → Bool := fun c _ => c == 25
theorem s_begin {s g : Nat} {z : St} {Q : Int32 → St → Prop} (hs : 2 ≤ s) (hs2 : s ≤ 20) (hg : g ≤ 2 ^ 27) (hg1 : 1 ≤ g) (hQ : ∀ z', Fz S25 z z' → z'.1 25 0 = 1 → z'.1 25 2 = jI s → z'.2 25 3 = jL g → z'.2 25 4 = jL (s ^ nD s g) → z'.1 25 5 = jI (nD s g) → z'.1 25 6 = 0 → z'.2 25 7 = 0 → (nD s g ≠ 0 → z'.1 25 1 = 0) → (nD s g = 0 → z'.1 25 1 = 1) → Q (jI (nD s g)) z') : P_D_begin (jI s) (jL g) z Q := by
  have h27 : (2 : Nat) ^ 27 = 134217728 := rfl
  have emax : mmaxL (1 : Int64) (jL g) = jL g := by
    unfold mmaxL
    rw [if_neg]
    rw [show (1 : Int64) = jL 1 from rfl, jL_lt (by omega) (by decide)]; omega
  have nsp := nD_spec hs hs2 hg hg1
  have loop : ∀ (K : St → Prop), (∀ z', Fz S25 z z' → z'.1 25 2 = jI s → z'.2 25 3 = jL g → z'.2 25 4 = jL (s ^ nD s g) → z'.1 25 5 = jI (nD s g) → K z') → ∀ (d n : Nat) (z' : St), n + d = 27 → dn s g d n = nD s g → Fz S25 z z' → z'.1 25 2 = jI s → z'.2 25 3 = jL g → z'.2 25 4 = jL (s ^ n) → z'.1 25 5 = jI n → (n = 0 ∨ s ^ (n - 1) < 134217728) → L_D_begin_24 K Q (d + 1) z' := by
    intro K hK d
    induction d with
    | zero =>
      intro n z' hn he hz e2 e3 e4 e5 hp
      have he' : n = nD s g := he
      have hk := hK z' hz e2 e3 (by rw [e4, he']) (by rw [e5, he'])
      refine ⟨fun _ => hk, fun _ => ⟨fun _ => hk, fun h => absurd ?_ h⟩⟩
      rw [e5, show (27 : Int32) = jI 27 from rfl, jI_le (by decide) (by omega)]; omega
    | succ d ih =>
      intro n z' hn he hz e2 e3 e4 e5 hp
      have he' : (if g ≤ s ^ n then n else dn s g d (n + 1)) = nD s g := he
      have hb : s ^ n < 4611686018427387904 := by
        rcases hp with e | e
        · subst e; rw [Nat.pow_zero]; decide
        · by_cases c : n = 0
          · subst c; rw [Nat.pow_zero]; decide
          · have e2 : s ^ n = s ^ (n - 1) * s := by rw [← Nat.pow_succ, show (n - 1).succ = n by omega]
            rw [e2]
            exact Nat.lt_of_le_of_lt (Nat.mul_le_mul (Nat.le_of_lt e) hs2) (by decide)
      unfold L_D_begin_24
      rw [e3, e4, e5, jL_le (by omega) (by omega)]
      refine ⟨fun hle => ?_, fun hgt => ⟨fun h => absurd h ?_, fun _ => ex1 (ex1 ?_)⟩⟩
      · rw [if_pos hle] at he'
        exact hK z' hz e2 e3 (by rw [e4, he']) (by rw [e5, he'])
      · rw [show (27 : Int32) = jI 27 from rfl, jI_le (by decide) (by omega)]; omega
      · rw [if_neg hgt] at he'
        have hpw := pw_lt hs hs2 hg hgt
        rw [e2, jI_toL (by omega), jL_mul, ← Nat.pow_succ, show (wL z' 25 4 (jL (s ^ n.succ))).1 25 5 = jI n from e5, jI_s]
        exact ih (n + 1) _ (by omega) he' (fz_I (fz_L hz rfl) rfl) e2 e3 rfl rfl (Or.inr (by rw [show n + 1 - 1 = n by omega]; exact hpw.2))
  unfold P_D_begin
  rw [emax]
  refine ex1 (ex1 (ex1 (ex1 ⟨_, loop _ (fun z' hz e2 e3 e4 e5 => ex1 (ex1 (ex1 ?_))) 27 0 _ rfl rfl (fz_I (fz_L (fz_L (fz_I fz_rfl rfl) rfl) rfl) rfl) rfl rfl rfl rfl (Or.inl rfl)⟩)))
  have e5' : (wI (wL (wI z' 25 6 0) 25 7 0) 25 0 1).1 25 5 = jI (nD s g) := e5
  rw [e5']
  refine ⟨fun hne => ex1 ?_, fun he => ex1 ?_⟩
  · rw [show (wI (wI (wL (wI z' 25 6 0) 25 7 0) 25 0 1) 25 1 0).1 25 5 = jI (nD s g) from e5]
    have hn0 : nD s g ≠ 0 := fun h => hne (by rw [h]; rfl)
    exact hQ _ (fz_I (fz_I (fz_L (fz_I hz rfl) rfl) rfl) rfl) rfl e2 e3 e4 e5 rfl rfl (fun _ => rfl) (fun h => absurd h hn0)
  · rw [show (wI (wI (wL (wI z' 25 6 0) 25 7 0) 25 0 1) 25 1 1).1 25 5 = jI (nD s g) from e5]
    have hn0 : nD s g = 0 := by rw [show (0 : Int32) = jI 0 from rfl, jI_eq (by omega) (by decide)] at he; exact he
    exact hQ _ (fz_I (fz_I (fz_L (fz_I hz rfl) rfl) rfl) rfl) rfl e2 e3 e4 e5 rfl rfl (fun h => absurd hn0 h) (fun _ => rfl)
abbrev S31d : Nat → Nat → Bool := fun c k => c == 31 && (k == 0 || (k == 23 || (k == 24 || (k == 25 || (k == 26 || (k == 27 || (k == 28 || (k == 29 || k == 30))))))))
/-- the reference sets its dice: the goal is g, whenever it is asked for -/
theorem m_dice {s g : Nat} {z : St} {Q : Int32 → St → Prop} (hs : 2 ≤ s) (hs2 : s ≤ 20) (hg : g ≤ 2 ^ 27) (hg1 : 1 ≤ g) (hgo : ∀ (z' : St) (Q' : Int64 → St → Prop), Fz S31d z z' → Q' (jL g) z' → P_M_goalNow z' Q')
    (hQ : ∀ z', Fz S31d z z' → z'.1 31 0 = 0 → z'.1 31 23 = jI s → z'.2 31 26 = jL g → z'.2 31 28 = jL (s ^ nD s g) → z'.1 31 25 = jI (nD s g) → z'.1 31 24 = 0 → z'.2 31 27 = 0 → z'.2 31 30 = 0 → (nD s g ≠ 0 → z'.1 31 29 = 0) → (nD s g = 0 → z'.1 31 29 = 1) → Q (jI (nD s g)) z') : J_M_dice_63 Q (jI s) 0 z := by
  have h27 : (2 : Nat) ^ 27 = 134217728 := rfl
  have nsp := nD_spec hs hs2 hg hg1
  have loop : ∀ (K : St → Prop), (∀ z', Fz S31d z z' → z'.1 31 0 = 0 → z'.1 31 23 = jI s → z'.2 31 26 = jL g → z'.2 31 28 = jL (s ^ nD s g) → z'.1 31 25 = jI (nD s g) → K z') → ∀ (d n : Nat) (z' : St), n + d = 27 → dn s g d n = nD s g → Fz S31d z z' → z'.1 31 0 = 0 → z'.1 31 23 = jI s → z'.2 31 26 = jL g → z'.2 31 28 = jL (s ^ n) → z'.1 31 25 = jI n → (n = 0 ∨ s ^ (n - 1) < 134217728) → L_M_dice_98 K Q (d + 1) (jI s) z' := by
    intro K hK d
    induction d with
    | zero =>
      intro n z' hn he hz e0 e2 e3 e4 e5 hp
      have he' : n = nD s g := he
      have hk := hK z' hz e0 e2 e3 (by rw [e4, he']) (by rw [e5, he'])
      refine ⟨fun _ => hk, fun h => absurd ?_ h⟩
      rw [e3, e4, he', jL_le (by omega) (by omega)]; exact nsp.2.1
    | succ d ih =>
      intro n z' hn he hz e0 e2 e3 e4 e5 hp
      have he' : (if g ≤ s ^ n then n else dn s g d (n + 1)) = nD s g := he
      have hb : s ^ n < 4611686018427387904 := by
        rcases hp with e | e
        · subst e; rw [Nat.pow_zero]; decide
        · by_cases c : n = 0
          · subst c; rw [Nat.pow_zero]; decide
          · have e2 : s ^ n = s ^ (n - 1) * s := by rw [← Nat.pow_succ, show (n - 1).succ = n by omega]
            rw [e2]
            exact Nat.lt_of_le_of_lt (Nat.mul_le_mul (Nat.le_of_lt e) hs2) (by decide)
      unfold L_M_dice_98
      rw [e3, e4, jL_le (by omega) (by omega)]
      refine ⟨fun hle => ?_, fun hgt => ex1 (ex1 ?_)⟩
      · rw [if_pos hle] at he'
        exact hK z' hz e0 e2 e3 (by rw [e4, he']) (by rw [e5, he'])
      · rw [if_neg hgt] at he'
        have hpw := pw_lt hs hs2 hg hgt
        rw [jI_toL (by omega), jL_mul, ← Nat.pow_succ, show (wL z' 31 28 (jL (s ^ n.succ))).1 31 25 = jI n from e5, jI_s]
        exact ih (n + 1) _ (by omega) he' (fz_I (fz_L hz rfl) rfl) e0 e2 e3 rfl rfl (Or.inr (by rw [show n + 1 - 1 = n by omega]; exact hpw.2))
  refine ex1 ⟨fun _ => ex1 ?_, fun h => absurd (show (0 : Int32) ≤ 0 by decide) h⟩
  refine hgo _ _ (fz_I (fz_I fz_rfl rfl) rfl) (ex1 (ex1 (ex1 ⟨_, loop _ (fun z' hz e0 e2 e3 e4 e5 => ex1 (ex1 ?_)) 27 0 _ rfl rfl (fz_L (fz_I (fz_L (fz_I (fz_I fz_rfl rfl) rfl) rfl) rfl) rfl) rfl rfl rfl rfl rfl (Or.inl rfl)⟩)))
  rw [show (wI (wL z' 31 27 0) 31 24 0).1 31 25 = jI (nD s g) from e5]
  refine ⟨fun hne => ex1 (ex1 ?_), fun he => ex1 (ex1 ?_)⟩
  · rw [show (wL (wI (wI (wL z' 31 27 0) 31 24 0) 31 29 0) 31 30 0).1 31 25 = jI (nD s g) from e5]
    have hn0 : nD s g ≠ 0 := fun h => hne (by rw [h]; rfl)
    exact hQ _ (fz_L (fz_I (fz_I (fz_L hz rfl) rfl) rfl) rfl) e0 e2 e3 e4 e5 rfl rfl rfl (fun _ => rfl) (fun h => absurd h hn0)
  · rw [show (wL (wI (wI (wL z' 31 27 0) 31 24 0) 31 29 1) 31 30 0).1 31 25 = jI (nD s g) from e5]
    have hn0 : nD s g = 0 := by rw [show (0 : Int32) = jI 0 from rfl, jI_eq (by omega) (by decide)] at he; exact he
    exact hQ _ (fz_L (fz_I (fz_I (fz_L hz rfl) rfl) rfl) rfl) e0 e2 e3 e4 e5 rfl rfl rfl (fun h => absurd hn0 h) (fun _ => rfl)
