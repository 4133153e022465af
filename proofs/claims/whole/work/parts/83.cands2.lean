/-! The pure side: who may fill an empty place, by the reference. -/
/-- what the reference needs to know of the seats -/
def MSR (A : Ab) (se : Nat → Nat) (sM gM : Nat) (z : St) : Prop := (∀ p, p < aN A → (sM.testBit p = true ↔ ∃ i, i < sZ A ∧ se i = p + 1)) ∧ ∀ p, p < aN A → z.1 45 p = bI (gM.testBit p)
theorem ms_r {A : Ab} {se : Nat → Nat} {sM gM : Nat} {z : St} (h : MS A se sM gM z) : MSR A se sM gM z := ⟨h.2.2.2.2.1, h.2.2.2.2.2⟩
def RST (A : Ab) (se : Nat → Nat) (sM gM : Nat) (z : St) : Prop := RP A z ∧ RV A z ∧ RQ A z ∧ RS A z ∧ STR A se z ∧ MSR A se sM gM z
theorem m_may {A : Ab} {se : Nat → Nat} {sM gM p : Nat} {z : St} {Q : Int32 → St → Prop} (hW : WF A) (hR : RST A se sM gM z) (hp : p < aN A) (hg : z.1 45 p = 0) (no : ¬ elg sM gM p = true → ∀ i, i < 8 → Q (jI i) z) (yes : elg sM gM p = true → Q (-1) z) : P_M_placeOf (jI p) z Q := by
  obtain ⟨rP, rV, rQ, rS, hS, mse, mgo⟩ := hR
  have h40 := hW.1
  have i8 := hW.2.2.2.2.2.2.2
  rw [mgo p hp, bI_0] at hg
  refine m_placeOf hW rS hS (by omega) (fun i hi e => no ?_ i (by omega)) (fun hno => yes ?_)
  · have h1 := (mse p hp).mpr ⟨i, hi, e⟩
    unfold elg
    rw [Nat.testBit_or, h1, Bool.true_or]; decide
  · unfold elg
    rw [Nat.testBit_or, hg]
    cases hb : sM.testBit p with
    | false => rfl
    | true =>
      obtain ⟨i, hi, e⟩ := (mse p hp).mp hb
      exact absurd e (hno i hi)
theorem elg_gone {sM gM p : Nat} (h : gM.testBit p = true) : ¬ elg sM gM p = true := by
  unfold elg
  rw [Nat.testBit_or, h, Bool.or_true]; decide
theorem m_least {A : Ab} {se : Nat → Nat} {sM gM : Nat} {z : St} {Q : Int32 → St → Prop} (hW : WF A) (hR : RST A se sM gM z) (h : Q (sv (lA A se sM gM)) z) : P_M_leastBreach z Q := by
  have h40 := hW.1
  obtain ⟨rP, rV, rQ, rS, hS, mse, mgo⟩ := id hR
  have bb : ∀ p, bA A se p ≤ 204 := fun p => br_le hW
  have lb : ∀ n, lst (elg sM gM) (bA A se) n ≤ 205 := fun n => lst_bd bb n
  have loop : ∀ (d n : Nat), n + d = aN A → L_M_leastBreach_4 Q (d + 1) (sv (lst (elg sM gM) (bA A se) n)) (jI n) z := by
    intro d
    induction d with
    | zero =>
      intro n hn
      have hn' : n = aN A := by omega
      subst hn'
      refine ⟨fun _ => h, fun hn => absurd ?_ hn⟩
      rw [rP.1]; exact Int32.le_refl _
    | succ d ih =>
      intro n hn
      have ih' := ih (n + 1) (by omega)
      have hLn := lb n
      have hbn := bb n
      have hnn : n < aN A := by omega
      have skip : ¬ elg sM gM n = true → L_M_leastBreach_4 Q (d + 1) (sv (lst (elg sM gM) (bA A se) n)) (jI n + 1) z := by
        intro he
        rw [lst_out he] at ih'
        rw [jI_s]; exact ih'
      refine ⟨fun h => absurd h ?_, fun _ => ⟨vp_n (by omega) (by decide), fun hg => ex1 (skip ?_), fun hg => ?_⟩⟩
      · rw [rP.1, jI_le (by omega) (by omega)]; omega
      · rw [jI_tn (by omega), mgo n hnn, bI_0] at hg
        refine elg_gone ?_
        cases hb : gM.testBit n with
        | false => exact absurd hb hg
        | true => rfl
      rw [jI_tn (by omega)] at hg
      refine m_may hW hR hnn hg (fun he i hi => ⟨fun h => absurd h (jI_m1 (by omega)), fun _ => ex1 (skip he)⟩) (fun he => ⟨fun _ => ?_, fun h => absurd rfl h⟩)
      have hli := lst_in (b := bA A se) he
      refine m_breach (x := n + 1) hW rP rV rQ rS hS (by omega) ?_
      show ((sv (lst (elg sM gM) (bA A se) n) = -1) → J_M_leastBreach_54 _ Q (jI n) (jI (bA A se n)) z) ∧ ((¬ sv (lst (elg sM gM) (bA A se) n) = -1) → ((sv (lst (elg sM gM) (bA A se) n) ≤ jI (bA A se n)) → J_M_leastBreach_54 _ Q (jI n) (sv (lst (elg sM gM) (bA A se) n)) z) ∧ ((¬ sv (lst (elg sM gM) (bA A se) n) ≤ jI (bA A se n)) → J_M_leastBreach_54 _ Q (jI n) (jI (bA A se n)) z))
      rw [hli] at ih'
      refine ⟨fun h0 => ex1 ?_, fun h0 => ?_⟩
      · rw [sv_m1 (by omega)] at h0
        rw [if_pos h0] at ih'
        rw [jI_s]; exact ih'
      · rw [sv_m1 (by omega)] at h0
        rw [if_neg h0] at ih'
        rw [sv_nn (by omega) h0, jI_le (by omega) (by omega)]
        refine ⟨fun hle => ex1 ?_, fun hgt => ex1 ?_⟩
        · rw [Nat.min_eq_left (by omega), sv_nn (by omega) h0] at ih'
          rw [jI_s]; exact ih'
        · rw [Nat.min_eq_right (by omega)] at ih'
          rw [jI_s]; exact ih'
  exact ⟨_, loop (aN A) 0 (by omega)⟩
theorem lA_le {A : Ab} (hW : WF A) (se : Nat → Nat) (sM gM : Nat) : lA A se sM gM ≤ 205 := lst_bd (fun _ => br_le hW) _
theorem m_isCand {A : Ab} {se : Nat → Nat} {sM gM p : Nat} {z : St} {Q : Int32 → St → Prop} (hW : WF A) (hR : RST A se sM gM z) (hp : p < aN A) (yes : fL (elg sM gM) (bA A se) (lA A se sM gM - 1) p = 1 → Q 1 z) (no : ¬ fL (elg sM gM) (bA A se) (lA A se sM gM - 1) p = 1 → Q 0 z) : P_M_isCandidate (jI p) (sv (lA A se sM gM)) z Q := by
  have h40 := hW.1
  obtain ⟨rP, rV, rQ, rS, hS, mse, mgo⟩ := id hR
  have hlA := lA_le hW se sM gM
  have hb : bA A se p ≤ 204 := br_le hW
  refine ⟨vp_n (by omega) (by decide), fun hg => no (fun h => ?_), fun hg => ?_⟩
  · rw [jI_tn (by omega), mgo p hp, bI_0] at hg
    refine elg_gone ?_ (fL_1.mp h).1
    cases hb : gM.testBit p with
    | false => exact absurd hb hg
    | true => rfl
  rw [jI_tn (by omega)] at hg
  refine m_may hW hR hp hg (fun he i hi => ⟨fun _ => no (fun h => he (fL_1.mp h).1), fun h => absurd h (jI_m1 (by omega))⟩) (fun he => ⟨fun h => absurd rfl h, fun _ => ?_⟩)
  have hl := lst_le (b := bA A se) hp he
  have hl0 : lA A se sM gM ≠ 0 := hl.1
  refine m_breach (x := p + 1) hW rP rV rQ rS hS (by omega) ?_
  show ((¬ jI (bA A se p) = sv (lA A se sM gM)) → Q 0 z) ∧ ((jI (bA A se p) = sv (lA A se sM gM)) → Q 1 z)
  rw [sv_nn (by omega) hl0, jI_eq (by omega) (by omega)]
  exact ⟨fun hne => no (fun h => hne (fL_1.mp h).2), fun he' => yes (fL_1.mpr ⟨he, he'⟩)⟩
theorem m_cands {A : Ab} {se : Nat → Nat} {sM gM : Nat} {z : St} {Q : Int32 → St → Prop} (hW : WF A) (hR : RST A se sM gM z) (h : Q (jI (cA A se sM gM)) z) : P_M_candidates z Q := by
  have h40 := hW.1
  have rP := hR.1
  refine m_least hW hR ?_
  have loop : ∀ (d n : Nat), n + d = aN A → L_M_candidates_9 Q (d + 1) (sv (lA A se sM gM)) (jI (cnt (fL (elg sM gM) (bA A se) (lA A se sM gM - 1)) 1 n)) (jI n) z := by
    intro d
    induction d with
    | zero =>
      intro n hn
      have hn' : n = aN A := by omega
      subst hn'
      refine ⟨fun _ => h, fun hn => absurd ?_ hn⟩
      rw [rP.1]; exact Int32.le_refl _
    | succ d ih =>
      intro n hn
      have ih' := ih (n + 1) (by omega)
      refine ⟨fun h => absurd h ?_, fun _ => m_isCand hW hR (by omega) (fun h1 => ⟨fun h => absurd h (by decide), fun _ => ex1 (ex1 ?_)⟩) (fun h0 => ⟨fun _ => ex1 (ex1 ?_), fun h => absurd rfl h⟩)⟩
      · rw [rP.1, jI_le (by omega) (by omega)]; omega
      · rw [cnt_at h1] at ih'
        rw [jI_s, jI_s]; exact ih'
      · rw [cnt_off h0] at ih'
        rw [show (0 : Int32) = jI 0 from rfl, jI_add, jI_s]; exact ih'
  exact ⟨_, loop (aN A) 0 (by omega)⟩
theorem m_candAt {A : Ab} {se : Nat → Nat} {sM gM i : Nat} {z : St} {Q : Int32 → St → Prop} (hW : WF A) (hR : RST A se sM gM z) (hi : i < 9223372036854775808) (hit : i < cA A se sM gM → Q (jI (iA A se sM gM i)) z) (miss : ¬ i < cA A se sM gM → Q (-1) z) : P_M_candidateAt (jL i) z Q := by
  have h40 := hW.1
  have rP := hR.1
  refine m_least hW hR ?_
  have loop : ∀ (d n : Nat), n + d = aN A → cnt (fL (elg sM gM) (bA A se) (lA A se sM gM - 1)) 1 n ≤ i → L_M_candidateAt_11 Q (d + 1) (sv (lA A se sM gM)) (jL (i - cnt (fL (elg sM gM) (bA A se) (lA A se sM gM - 1)) 1 n)) (jI n) z := by
    intro d
    induction d with
    | zero =>
      intro n hn hc
      have hn' : n = aN A := by omega
      subst hn'
      refine ⟨fun _ => miss (fun h => ?_), fun hn => absurd ?_ hn⟩
      · have h' : i < cnt (fL (elg sM gM) (bA A se) (lA A se sM gM - 1)) 1 (aN A) := h
        omega
      · rw [rP.1]; exact Int32.le_refl _
    | succ d ih =>
      intro n hn hc
      refine ⟨fun h => absurd h ?_, fun _ => m_isCand hW hR (by omega) (fun h1 => ⟨fun _ => ⟨fun hne => ex1 (ex1 ?_), fun he => ?_⟩, fun h => absurd h (by decide)⟩) (fun h0 => ⟨fun h => absurd rfl h, fun _ => ex1 ?_⟩)⟩
      · rw [rP.1, jI_le (by omega) (by omega)]; omega
      · rw [show (0 : Int64) = jL 0 from rfl, jL_eq (by omega) (by decide)] at hne
        have := ih (n + 1) (by omega) (by rw [cnt_at h1]; omega)
        rw [cnt_at h1] at this
        rw [show (1 : Int64) = jL 1 from rfl, jL_sub (by omega), jI_s, Nat.sub_sub]
        exact this
      · rw [show (0 : Int64) = jL 0 from rfl, jL_eq (by omega) (by decide)] at he
        have ei : i = cnt (fL (elg sM gM) (bA A se) (lA A se sM gM - 1)) 1 n := by omega
        have h2 := cnt_mono' (f := fL (elg sM gM) (bA A se) (lA A se sM gM - 1)) (c := 1) (a := n + 1) (b := aN A) (by omega)
        rw [cnt_at h1] at h2
        have hlt : i < cA A se sM gM := by
          show i < cnt (fL (elg sM gM) (bA A se) (lA A se sM gM - 1)) 1 (aN A)
          omega
        have hq := hit hlt
        have epk : iA A se sM gM i = n := by
          unfold iA
          rw [ei]; exact pk_at h1 (by omega)
        rw [epk] at hq; exact hq
      · have := ih (n + 1) (by omega) (by rw [cnt_off h0]; exact hc)
        rw [cnt_off h0] at this
        rw [jI_s]; exact this
  exact ⟨_, loop (aN A) 0 (by omega) (Nat.zero_le _)⟩
