/-! The pure side: rows and tables of the reference. -/
theorem adds_c : ∀ c : Nat, c < 64 → (((1 : Int64) <<< (((4 : Int32) * (jI c / (16 : Int32))).toInt64 &&& 63)) ||| ((1 : Int64) <<< (((16 : Int32) + ((4 : Int32) * ((jI c / (4 : Int32)) - (jI c / (4 : Int32)) / (4 : Int32) * (4 : Int32)))).toInt64 &&& 63))) ||| ((1 : Int64) <<< (((32 : Int32) + ((4 : Int32) * (jI c - jI c / (4 : Int32) * (4 : Int32)))).toInt64 &&& 63)) = jL (ad c) := by decide +kernel
theorem m_adds {A : Ab} {k : Nat} {z : St} {Q : Int64 → St → Prop} (hW : WF A) (hk : k < kN A) (rK : RK A z) (h : Q (jL (ad (kC A k))) z) : P_M_adds (jI k) z Q := by
  have h16 := hW.2.1
  have h64 := (hW.2.2.1.2.1 k hk).1
  unfold P_M_adds
  rw [jI_tn (by omega), rK.2.1 k hk]
  refine ⟨vp_n (by omega) (by decide), ex1 ?_⟩
  rw [adds_c _ h64]; exact h
theorem m_had {r t v : Nat} {z : St} {Q : Int32 → St → Prop} (hr : r < 9223372036854775808) (ht : t < 3) (hv : v < 4) (h : Q (jI (hd r (4 * t + v))) z) : P_M_had (jL r) (jI t) (jI v) z Q := by
  unfold P_M_had
  rw [show (16 : Int32) = jI 16 from rfl, show (4 : Int32) = jI 4 from rfl, jI_mul, jI_mul, jI_add, show 16 * t + 4 * v = 4 * (4 * t + v) by omega, fld hr (by omega), p2_16]
  exact h
theorem m_all {r : Nat} {z : St} {Q : Int32 → St → Prop} (hr : r < 9223372036854775808) (h : Q (jI (al r)) z) : P_M_all (jL r) z Q := by
  refine m_had (t := 0) (v := 0) hr (by decide) (by decide) (m_had (t := 0) (v := 1) hr (by decide) (by decide) (m_had (t := 0) (v := 2) hr (by decide) (by decide) (m_had (t := 0) (v := 3) hr (by decide) (by decide) ?_)))
  rw [jI_add, jI_add, jI_add]; exact h
/-- all quotas of a list are looked at, those beyond a trait's values apart -/
def gB (A : Ab) (b0 : Bool) (ok : Nat → Bool) : Nat → Bool
  | 0 => b0
  | n + 1 => gB A b0 ok n && (decide (vS A (n / 4) ≤ n % 4) || ok n)
theorem gB_skip {A : Ab} {b0 : Bool} {ok : Nat → Bool} {t v : Nat} (hv : vS A t ≤ v) : ∀ {d : Nat}, v + d ≤ 4 → gB A b0 ok (4 * t + v + d) = gB A b0 ok (4 * t + v)
  | 0, _ => rfl
  | d + 1, h => by
    show (gB A b0 ok (4 * t + v + d) && (decide (vS A ((4 * t + v + d) / 4) ≤ (4 * t + v + d) % 4) || _)) = _
    rw [gB_skip hv (d := d) (by omega), show (4 * t + v + d) / 4 = t by omega, show (4 * t + v + d) % 4 = v + d by omega, decide_eq_true (show vS A t ≤ v + d by omega), Bool.true_or, Bool.and_true]
theorem gB_s {A : Ab} {b0 : Bool} {ok : Nat → Bool} {t v : Nat} (hv : v < 4) (h : v < vS A t) : gB A b0 ok (4 * t + (v + 1)) = (gB A b0 ok (4 * t + v) && ok (4 * t + v)) := by
  show (gB A b0 ok (4 * t + v) && (decide (vS A ((4 * t + v) / 4) ≤ (4 * t + v) % 4) || _)) = _
  rw [show (4 * t + v) / 4 = t by omega, show (4 * t + v) % 4 = v by omega, decide_eq_false (show ¬ vS A t ≤ v by omega), Bool.false_or]
  rfl
theorem gB_iff {A : Ab} {b0 : Bool} {ok : Nat → Bool} : ∀ {n : Nat}, gB A b0 ok n = true ↔ b0 = true ∧ ∀ q, q < n → q % 4 < vS A (q / 4) → ok q = true
  | 0 => ⟨fun h => ⟨h, fun q hq => absurd hq (Nat.not_lt_zero q)⟩, fun h => h.1⟩
  | n + 1 => by
    show (gB A b0 ok n && (decide (vS A (n / 4) ≤ n % 4) || ok n)) = true ↔ _
    rw [Bool.and_eq_true, gB_iff, Bool.or_eq_true, decide_eq_true_iff]
    constructor
    · rintro ⟨⟨h1, h2⟩, h3⟩
      refine ⟨h1, fun q hq hv => ?_⟩
      by_cases e : q = n
      · subst e
        rcases h3 with h3 | h3
        · omega
        · exact h3
      · exact h2 q (by omega) hv
    · rintro ⟨h1, h2⟩
      refine ⟨⟨h1, fun q hq hv => h2 q (by omega) hv⟩, ?_⟩
      by_cases e : vS A (n / 4) ≤ n % 4
      · exact Or.inl e
      · exact Or.inr (h2 n (by omega) (by omega))
def alB (A : Ab) (r : Nat) : Bool := gB A (decide (al r ≤ sZ A)) (fun q => decide (hd r q ≤ hI A q)) 12
theorem m_isAllowed {A : Ab} {r : Nat} {z : St} {Q : Int32 → St → Prop} (hW : WF A) (hr : r < 9223372036854775808) (rV : RV A z) (rQ : RQ A z) (rS : RS A z) (h : Q (bI (alB A r)) z) : P_M_isAllowed (jL r) z Q := by
  have i8 := hW.2.2.2.2.2.2.2
  have inner : ∀ (b0 : Bool) (K : Int64 → Int32 → Int32 → St → Prop) (t : Nat), t < 3 → K (jL r) (bI (gB A b0 (fun q => decide (hd r q ≤ hI A q)) (4 * t + 4))) (jI t) z → ∀ (d v : Nat), v + d = vS A t → L_M_isAllowed_29 K Q (d + 1) (jL r) (bI (gB A b0 (fun q => decide (hd r q ≤ hI A q)) (4 * t + v))) (jI t) (jI v) z := by
    intro b0 K t ht hK d
    have h4 := (hW.2.2.2.2.1 t ht).2
    induction d with
    | zero =>
      intro v hv
      refine ⟨vp_n ht (by decide), fun _ => ?_, fun hn => absurd ?_ hn⟩
      · have := gB_skip (A := A) (b0 := b0) (ok := fun q => decide (hd r q ≤ hI A q)) (t := t) (v := v) (by omega) (d := 4 - v) (by omega)
        rw [show 4 * t + v + (4 - v) = 4 * t + 4 by omega] at this
        rw [← this]; exact hK
      · rw [jI_tn (by omega), rV t ht, jI_le (by omega) (by omega)]; omega
    | succ d ih =>
      intro v hv
      have e4 : (4 : Int32) * jI t + jI v = jI (4 * t + v) := by rw [show (4 : Int32) = jI 4 from rfl, jI_mul, jI_add]
      have ihv := ih (v + 1) (by omega)
      rw [gB_s (by omega) (by omega)] at ihv
      refine ⟨vp_n ht (by decide), fun hn => absurd hn ?_, fun _ => ?_⟩
      · rw [jI_tn (by omega), rV t ht, jI_le (by omega) (by omega)]; omega
      cases hb : gB A b0 (fun q => decide (hd r q ≤ hI A q)) (4 * t + v) with
      | false =>
        rw [hb, Bool.false_and] at ihv
        refine ⟨fun _ => ex1 ?_, fun h => absurd rfl h⟩
        rw [jI_s]; exact ihv
      | true =>
        rw [hb, Bool.true_and] at ihv
        refine ⟨fun h => absurd h (by decide), fun _ => m_had hr ht (by omega) ?_⟩
        have hl := (hW.2.2.2.2.2.1 (4 * t + v) (by omega))
        have hlt := hd_lt r (4 * t + v)
        rw [e4, jI_tn (by omega), rQ.2 _ (by omega), jI_lt (by omega) (by omega)]
        refine ⟨vp_n (by omega) (by decide), fun h => ex1 ?_, fun h => ex1 ?_⟩
        · rw [decide_eq_false (by omega)] at ihv
          rw [jI_s]; exact ihv
        · rw [decide_eq_true (by omega)] at ihv
          rw [jI_s]; exact ihv
  have outer : ∀ b : Bool, b = decide (al r ≤ sZ A) → ∃ k, L_M_isAllowed_20 Q k (jL r) (bI b) 0 z := by
    intro b hb
    subst hb
    have i := fun K t ht hK => inner (decide (al r ≤ sZ A)) K t ht hK (vS A t) 0 (by omega)
    refine ⟨4, fun e => absurd e (by decide), fun _ => ⟨_, i _ 0 (by decide) (ex1 ?_)⟩⟩
    refine ⟨fun e => absurd e (by decide), fun _ => ⟨_, i _ 1 (by decide) (ex1 ?_)⟩⟩
    refine ⟨fun e => absurd e (by decide), fun _ => ⟨_, i _ 2 (by decide) (ex1 ?_)⟩⟩
    exact ⟨fun _ => ⟨bI_zb _, h⟩, fun e => absurd (by decide) e⟩
  have hal : al r < 64 := by
    have := hd_lt r 0; have := hd_lt r 1; have := hd_lt r 2; have := hd_lt r 3
    unfold al; omega
  unfold P_M_isAllowed
  refine m_all hr ?_
  rw [show z.1 31 7 = jI (sZ A) from rS, jI_lt (by omega) (by omega)]
  refine ⟨fun hlt => ?_, fun hge => ?_⟩
  · exact outer false (decide_eq_false (by omega)).symm
  · exact outer true (decide_eq_true (by omega)).symm
theorem m_isPanel {A : Ab} {r : Nat} {z : St} {Q : Int32 → St → Prop} (hW : WF A) (hr : r < 9223372036854775808) (rV : RV A z) (rQ : RQ A z) (rS : RS A z) (h : Q (bI (gB A (decide (al r = sZ A) && alB A r) (fun q => decide (lO A q ≤ hd r q)) 12)) z) : P_M_isPanel (jL r) z Q := by
  have i8 := hW.2.2.2.2.2.2.2
  have inner : ∀ (b0 : Bool) (K : Int64 → Int32 → Int32 → St → Prop) (t : Nat), t < 3 → K (jL r) (bI (gB A b0 (fun q => decide (lO A q ≤ hd r q)) (4 * t + 4))) (jI t) z → ∀ (d v : Nat), v + d = vS A t → L_M_isPanel_37 K Q (d + 1) (jL r) (bI (gB A b0 (fun q => decide (lO A q ≤ hd r q)) (4 * t + v))) (jI t) (jI v) z := by
    intro b0 K t ht hK d
    have h4 := (hW.2.2.2.2.1 t ht).2
    induction d with
    | zero =>
      intro v hv
      refine ⟨vp_n ht (by decide), fun _ => ?_, fun hn => absurd ?_ hn⟩
      · have := gB_skip (A := A) (b0 := b0) (ok := fun q => decide (lO A q ≤ hd r q)) (t := t) (v := v) (by omega) (d := 4 - v) (by omega)
        rw [show 4 * t + v + (4 - v) = 4 * t + 4 by omega] at this
        rw [← this]; exact hK
      · rw [jI_tn (by omega), rV t ht, jI_le (by omega) (by omega)]; omega
    | succ d ih =>
      intro v hv
      have e4 : (4 : Int32) * jI t + jI v = jI (4 * t + v) := by rw [show (4 : Int32) = jI 4 from rfl, jI_mul, jI_add]
      have ihv := ih (v + 1) (by omega)
      rw [gB_s (by omega) (by omega)] at ihv
      refine ⟨vp_n ht (by decide), fun hn => absurd hn ?_, fun _ => ?_⟩
      · rw [jI_tn (by omega), rV t ht, jI_le (by omega) (by omega)]; omega
      cases hb : gB A b0 (fun q => decide (lO A q ≤ hd r q)) (4 * t + v) with
      | false =>
        rw [hb, Bool.false_and] at ihv
        refine ⟨fun _ => ex1 ?_, fun h => absurd rfl h⟩
        rw [jI_s]; exact ihv
      | true =>
        rw [hb, Bool.true_and] at ihv
        refine ⟨fun h => absurd h (by decide), fun _ => m_had hr ht (by omega) ?_⟩
        have hl := (hW.2.2.2.2.2.1 (4 * t + v) (by omega))
        have hlt := hd_lt r (4 * t + v)
        rw [e4, jI_tn (by omega), rQ.1 _ (by omega), jI_lt (by omega) (by omega)]
        refine ⟨vp_n (by omega) (by decide), fun h => ex1 ?_, fun h => ex1 ?_⟩
        · rw [decide_eq_false (by omega)] at ihv
          rw [jI_s]; exact ihv
        · rw [decide_eq_true (by omega)] at ihv
          rw [jI_s]; exact ihv
  have outer : ∀ b : Bool, b = (decide (al r = sZ A) && alB A r) → ∃ k, L_M_isPanel_28 Q k (jL r) (bI b) 0 z := by
    intro b hb
    subst hb
    have i := fun K t ht hK => inner (decide (al r = sZ A) && alB A r) K t ht hK (vS A t) 0 (by omega)
    refine ⟨4, fun e => absurd e (by decide), fun _ => ⟨_, i _ 0 (by decide) (ex1 ?_)⟩⟩
    refine ⟨fun e => absurd e (by decide), fun _ => ⟨_, i _ 1 (by decide) (ex1 ?_)⟩⟩
    refine ⟨fun e => absurd e (by decide), fun _ => ⟨_, i _ 2 (by decide) (ex1 ?_)⟩⟩
    exact ⟨fun _ => ⟨bI_zb _, h⟩, fun e => absurd (by decide) e⟩
  have hal : al r < 64 := by
    have := hd_lt r 0; have := hd_lt r 1; have := hd_lt r 2; have := hd_lt r 3
    unfold al; omega
  unfold P_M_isPanel
  refine m_all hr ?_
  rw [show z.1 31 7 = jI (sZ A) from rS, jI_eq (by omega) (by omega)]
  refine ⟨fun hne => ?_, fun he => m_isAllowed hW hr rV rQ rS ⟨fun h0 => ?_, fun h1 => ?_⟩⟩
  · exact outer false (by rw [decide_eq_false hne]; rfl)
  · refine outer false ?_
    cases hb : alB A r with
    | false => rw [Bool.and_false]
    | true => rw [hb] at h0; exact absurd h0 (by decide)
  · refine outer true ?_
    cases hb : alB A r with
    | false => rw [hb] at h1; exact absurd rfl h1
    | true => rw [decide_eq_true he]; rfl
/-- what the reference calls a panel is what the office calls so -/
theorem vr_al {A : Ab} {k r : Nat} (hv : VR A k r) : alB A (lo12 r) = true := by
  unfold alB
  rw [gB_iff]
  refine ⟨?_, fun q hq _ => ?_⟩
  · rw [decide_eq_true_iff, al_lo12, ← hv.2.1]; exact hv.2.2.1
  · show decide (hd (lo12 r) q ≤ hI A q) = true
    rw [decide_eq_true_iff, hd_lo12 hq]; exact (hv.2.2.2 q hq).1
theorem vr_pan {A : Ab} {k r : Nat} (hv : VR A k r) : gB A (decide (al (lo12 r) = sZ A) && alB A (lo12 r)) (fun q => decide (lO A q ≤ hd (lo12 r) q)) 12 = panB A r 12 := by
  apply Bool.eq_iff_iff.mpr
  rw [gB_iff, panB_iff, vr_al hv, Bool.and_true, decide_eq_true_iff, al_lo12, hv.2.1]
  constructor
  · refine fun h => ⟨h.1, fun q hq hv => ?_⟩
    have h2 := h.2 q hq hv
    rw [decide_eq_true_iff, hd_lo12 hq] at h2; exact h2
  · refine fun h => ⟨h.1, fun q hq hv => ?_⟩
    show decide (lO A q ≤ hd (lo12 r) q) = true
    rw [decide_eq_true_iff, hd_lo12 hq]; exact h.2 q hq hv
theorem lo12_nxt {c r j : Nat} (h : Fit c r j) : lo12 (nxt c r j) = lo12 r + j * ad c := by
  obtain ⟨h12, h0, h1, h2⟩ := h
  have b0 := q0_lt c
  have b1 := q1_lt c
  have b2 := q2_lt c
  have e13 : ∀ q, q < 13 → hd (r + 1 * 16 ^ 13) q = hd r q := fun q hq => dig_lo hq
  have f12 : hd (r + 1 * 16 ^ 13) 12 + j < 16 := by rw [e13 12 (by omega)]; exact h12
  have e12 : ∀ q, q < 13 → hd (r + 1 * 16 ^ 13 + j * 16 ^ 12) q = hd r q + if q = 12 then j else 0 := fun q hq => by rw [dig_add f12, e13 q hq]
  have f0 : hd (r + 1 * 16 ^ 13 + j * 16 ^ 12) (q0 c) + j < 16 := by rw [e12 _ (by omega), if_neg (by omega)]; exact h0
  have e0 : ∀ q, q < 13 → hd (r + 1 * 16 ^ 13 + j * 16 ^ 12 + j * 16 ^ q0 c) q = hd r q + (if q = 12 then j else 0) + if q = q0 c then j else 0 := fun q hq => by rw [dig_add f0, e12 q hq]
  have f1 : hd (r + 1 * 16 ^ 13 + j * 16 ^ 12 + j * 16 ^ q0 c) (q1 c) + j < 16 := by rw [e0 _ (by omega), if_neg (by omega), if_neg (by omega)]; exact h1
  have e1 : ∀ q, q < 13 → hd (r + 1 * 16 ^ 13 + j * 16 ^ 12 + j * 16 ^ q0 c + j * 16 ^ q1 c) q = hd r q + (if q = 12 then j else 0) + (if q = q0 c then j else 0) + if q = q1 c then j else 0 := fun q hq => by rw [dig_add f1, e0 q hq]
  have f2 : hd (r + 1 * 16 ^ 13 + j * 16 ^ 12 + j * 16 ^ q0 c + j * 16 ^ q1 c) (q2 c) + j < 16 := by rw [e1 _ (by omega), if_neg (by omega), if_neg (by omega), if_neg (by omega)]; exact h2
  have hdv : nxt c r j / 16 ^ 12 = r / 16 ^ 12 + 16 + j := by
    rw [nxt_eq, dig_up f2 (by omega), dig_up f1 (by omega), dig_up f0 (by omega), Nat.add_mul_div_right _ _ (p16 12)]
    rw [show 1 * 16 ^ 13 = 16 * 16 ^ 12 from rfl, Nat.add_mul_div_right _ _ (p16 12)]
  have m1 := Nat.mod_add_div (nxt c r j) (16 ^ 12)
  have m2 := Nat.mod_add_div r (16 ^ 12)
  rw [hdv, Nat.mul_add, Nat.mul_add] at m1
  unfold lo12
  have e : nxt c r j = r + 16 ^ 12 * 16 + 16 ^ 12 * j + j * ad c := by
    unfold nxt
    rw [Nat.mul_add, Nat.mul_comm j (16 ^ 12), show (16 : Nat) ^ 13 = 16 ^ 12 * 16 from rfl]
    omega
  rw [e] at m1 ⊢
  omega
