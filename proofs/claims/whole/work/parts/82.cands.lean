/-! The pure side: who may fill an empty place. -/
/-- the least breach among the first n that may come in: 0 if there is nobody, else one more -/
def lst (e : Nat → Bool) (b : Nat → Nat) : Nat → Nat
  | 0 => 0
  | n + 1 => if e n = true then (if lst e b n = 0 then b n + 1 else min (lst e b n) (b n + 1)) else lst e b n
theorem lst_in {e : Nat → Bool} {b : Nat → Nat} {n : Nat} (h : e n = true) : lst e b (n + 1) = if lst e b n = 0 then b n + 1 else min (lst e b n) (b n + 1) := if_pos h
theorem lst_out {e : Nat → Bool} {b : Nat → Nat} {n : Nat} (h : ¬ e n = true) : lst e b (n + 1) = lst e b n := if_neg h
theorem lst_le {e : Nat → Bool} {b : Nat → Nat} : ∀ {n p : Nat}, p < n → e p = true → lst e b n ≠ 0 ∧ lst e b n ≤ b p + 1
  | 0, p, h, _ => absurd h (Nat.not_lt_zero p)
  | n + 1, p, h, hp => by
    by_cases en : e n = true
    · rw [lst_in en]
      by_cases c : p = n
      · subst c
        by_cases e0 : lst e b p = 0
        · rw [if_pos e0]; omega
        · rw [if_neg e0]; omega
      · have := lst_le (e := e) (b := b) (n := n) (p := p) (by omega) hp
        rw [if_neg this.1]; omega
    · rw [lst_out en]
      have c : p ≠ n := fun c => en (by rw [← c]; exact hp)
      exact lst_le (by omega) hp
theorem lst_at {e : Nat → Bool} {b : Nat → Nat} : ∀ {n : Nat}, lst e b n ≠ 0 → ∃ p, p < n ∧ e p = true ∧ b p + 1 = lst e b n
  | 0, h => absurd rfl h
  | n + 1, h => by
    by_cases en : e n = true
    · rw [lst_in en] at h ⊢
      by_cases e0 : lst e b n = 0
      · rw [if_pos e0] at h ⊢
        exact ⟨n, Nat.lt_succ_self _, en, rfl⟩
      · rw [if_neg e0] at h ⊢
        by_cases c : lst e b n ≤ b n + 1
        · rw [Nat.min_eq_left c]
          obtain ⟨p, hp, h1, h2⟩ := lst_at e0
          exact ⟨p, by omega, h1, h2⟩
        · rw [Nat.min_eq_right (by omega)]
          exact ⟨n, Nat.lt_succ_self _, en, rfl⟩
    · rw [lst_out en] at h ⊢
      obtain ⟨p, hp, h1, h2⟩ := lst_at h
      exact ⟨p, by omega, h1, h2⟩
theorem lst_bd {e : Nat → Bool} {b : Nat → Nat} {M : Nat} (hb : ∀ p, b p ≤ M) (n : Nat) : lst e b n ≤ M + 1 := by
  by_cases h : lst e b n = 0
  · omega
  · obtain ⟨p, _, _, h2⟩ := lst_at h
    have := hb p; omega
def fL (e : Nat → Bool) (b : Nat → Nat) (L p : Nat) : Nat := if e p = true ∧ b p = L then 1 else 0
theorem fL_1 {e : Nat → Bool} {b : Nat → Nat} {L p : Nat} : fL e b L p = 1 ↔ e p = true ∧ b p = L := by
  unfold fL
  by_cases h : e p = true ∧ b p = L
  · rw [if_pos h]; exact ⟨fun _ => h, fun _ => rfl⟩
  · rw [if_neg h]; exact ⟨fun h' => absurd h' (by decide), fun h' => absurd h' h⟩
theorem pk_old {f : Nat → Nat} {c n i : Nat} (h : ¬ (f n = c ∧ cnt f c n = i)) : pk f c (n + 1) i = pk f c n i := if_neg h
theorem pk_new {f : Nat → Nat} {c n : Nat} (h : f n = c) : pk f c (n + 1) (cnt f c n) = n := if_pos ⟨h, rfl⟩
theorem cnt_none {f : Nat → Nat} {c : Nat} : ∀ {n : Nat}, (∀ p, p < n → f p ≠ c) → cnt f c n = 0
  | 0, _ => rfl
  | n + 1, h => by rw [cnt_off (h n (by omega))]; exact cnt_none (fun p hp => h p (by omega))
/-- the masks of the seated and the gone -/
def MS (A : Ab) (se : Nat → Nat) (sM gM : Nat) (z : St) : Prop := z.2 26 6 = jL sM ∧ z.2 26 7 = jL gM ∧ sM < 2 ^ 40 ∧ gM < 2 ^ 40 ∧ (∀ p, p < aN A → (sM.testBit p = true ↔ ∃ i, i < sZ A ∧ se i = p + 1)) ∧ ∀ p, p < aN A → z.1 45 p = bI (gM.testBit p)
def elg (sM gM p : Nat) : Bool := !(sM ||| gM).testBit p
def bA (A : Ab) (se : Nat → Nat) (p : Nat) : Nat := br A se (p + 1)
/-- the least breach of all, how many have it, and the i-th of them -/
def lA (A : Ab) (se : Nat → Nat) (sM gM : Nat) : Nat := lst (elg sM gM) (bA A se) (aN A)
def cA (A : Ab) (se : Nat → Nat) (sM gM : Nat) : Nat := cnt (fL (elg sM gM) (bA A se) (lA A se sM gM - 1)) 1 (aN A)
def iA (A : Ab) (se : Nat → Nat) (sM gM i : Nat) : Nat := pk (fL (elg sM gM) (bA A se) (lA A se sM gM - 1)) 1 (aN A) i
theorem cA_le (A : Ab) (se : Nat → Nat) (sM gM : Nat) : cA A se sM gM ≤ aN A := cnt_le _ _ _
theorem iA_lt {A : Ab} {se : Nat → Nat} {sM gM i : Nat} (h : i < cA A se sM gM) : iA A se sM gM i < aN A ∧ elg sM gM (iA A se sM gM i) = true := by
  have := pk_spec h
  exact ⟨this.1, (fL_1.mp this.2.1).1⟩
abbrev S289 : Nat → Nat → Bool := fun c _ => c == 28 || c == 29
theorem or_lt {a b : Nat} (ha : a < 2 ^ 40) (hb : b < 2 ^ 40) : a ||| b < 2 ^ 40 := Nat.or_lt_two_pow ha hb
theorem s_cands {A : Ab} {se : Nat → Nat} {sM gM : Nat} {zs : St} {Q : Int32 → St → Prop} (hW : WF A) (oP : OP A zs) (oV : OV A zs) (oQ : OQ A zs) (hS : ST A se zs) (hM : MS A se sM gM zs) (he : ¬ zs.1 26 8 < 0)
    (hQ : ∀ z', Fz S289 zs z' → (∀ i, i < cA A se sM gM → z'.1 29 i = jI (iA A se sM gM i)) → Q (jI (cA A se sM gM)) z') : P_S_listCandidates zs Q := by
  have h40 := hW.1
  obtain ⟨m6, m7, ms, mg, mse, mgo⟩ := hM
  have hor := or_lt ms mg
  have hor2 : sM ||| gM < 9223372036854775808 := Nat.lt_of_lt_of_le hor (by decide)
  have bb : ∀ p, bA A se p ≤ 204 := fun p => br_le hW
  have lb : ∀ n, lst (elg sM gM) (bA A se) n ≤ 205 := fun n => lst_bd bb n
  have loop : ∀ (d n : Nat) (z : St), n + d = aN A → Fz S289 zs z → (∀ i, i < cnt (fL (elg sM gM) (bA A se) (lst (elg sM gM) (bA A se) n - 1)) 1 n → z.1 29 i = jI (pk (fL (elg sM gM) (bA A se) (lst (elg sM gM) (bA A se) n - 1)) 1 n i)) → L_S_listCandidates_15 Q (d + 1) (jI (cnt (fL (elg sM gM) (bA A se) (lst (elg sM gM) (bA A se) n - 1)) 1 n)) (jI (lst (elg sM gM) (bA A se) n - 1)) (jI n) z := by
    intro d
    induction d with
    | zero =>
      intro n z hn hz hc
      have hn' : n = aN A := by omega
      subst hn'
      refine ⟨fun _ => hQ z hz hc, fun h => absurd ?_ h⟩
      rw [(hz 1 4 rfl).1, oP.1]; exact Int32.le_refl _
    | succ d ih =>
      intro n z hn hz hc
      generalize hL : lst (elg sM gM) (bA A se) n = L at *
      have hLn := lb n
      rw [hL] at hLn
      have hcl := cnt_le (fL (elg sM gM) (bA A se) (L - 1)) 1 n
      have hbn := bb n
      have ih' := fun z' hz' => ih (n + 1) z' (by omega) hz'
      refine ⟨fun h => absurd h ?_, fun _ => ?_⟩
      · rw [(hz 1 4 rfl).1, oP.1, jI_le (by omega) (by omega)]; omega
      rw [(hz 26 6 rfl).2, (hz 26 7 rfl).2, m6, m7, jL_or]
      -- a new least breach
      have reset : elg sM gM n = true → (∀ p, p < n → elg sM gM p = true → bA A se n < bA A se p) → lst (elg sM gM) (bA A se) (n + 1) = bA A se n + 1 → ∀ z', Fz S289 zs z' → J_S_listCandidates_64 (L_S_listCandidates_15 Q (d + 1)) Q 0 (jI (bA A se n)) (jI n) (jI (bA A se n)) z' := by
        intro hel hlt hls z' hz'
        refine ⟨fun h => absurd rfl h, fun _ => ⟨by unfold vp_in; decide, ex1 (ex1 (ex1 ?_))⟩⟩
        have hno : ∀ p, p < n → fL (elg sM gM) (bA A se) (bA A se n) p ≠ 1 := by
          intro p hp h1
          have := fL_1.mp h1
          have h2 := hlt p hp this.1
          omega
        have c0 := cnt_none hno
        have fn : fL (elg sM gM) (bA A se) (bA A se n) n = 1 := fL_1.mpr ⟨hel, rfl⟩
        have := ih' (wI z' 29 0 (jI n)) (fz_I hz' rfl)
        rw [hls, Nat.add_sub_cancel, cnt_at fn, c0] at this
        rw [jI_s]
        refine this (fun i hi => ?_)
        have hi0 : i = 0 := by omega
        subst hi0
        have hpk := pk_new fn
        rw [c0] at hpk
        rw [hpk]; exact zI_at
      refine s_isIn hor2 (by omega) ⟨fun h1 => ex1 ?_, fun h0 => ?_⟩
      · -- may not come in
        have hel : ¬ elg sM gM n = true := by
          intro h
          unfold elg at h
          cases hb : (sM ||| gM).testBit n with
          | false => rw [hb] at h1; exact h1 rfl
          | true => rw [hb] at h; exact absurd h (by decide)
        have fn : ¬ fL (elg sM gM) (bA A se) (L - 1) n = 1 := fun h => hel (fL_1.mp h).1
        have := ih' z hz
        rw [lst_out hel, hL, cnt_off fn] at this
        rw [jI_s]
        refine this (fun i hi => ?_)
        rw [pk_old (fun h => fn h.1)]; exact hc i hi
      · have hel : elg sM gM n = true := by
          unfold elg
          cases hb : (sM ||| gM).testBit n with
          | false => rfl
          | true => rw [hb] at h0; exact absurd h0 (by decide)
        have hli := lst_in (b := bA A se) hel
        rw [hL] at hli
        refine s_breach (x := n + 1) hW (op_fr ⟨rfl, fun _ => rfl⟩ hz oP) (ov_fr (fun _ => rfl) hz oV) (oq_fr ⟨fun _ => rfl, fun _ => rfl⟩ hz oQ) ⟨(hz 26 5 rfl).1.trans hS.1, fun i hi => ⟨(hz 27 i rfl).1.trans (hS.2.1 i hi).1, (hz 44 i rfl).1.trans (hS.2.1 i hi).2⟩, hS.2.2⟩ (by omega) (fun z' hz' => ?_)
        have hzz : Fz S289 zs z' := fz_trans hz (fz_mono hz' (fun c k e => by rw [Bool.or_eq_false_iff] at e; exact e.1))
        have hc' : ∀ i, i < cnt (fL (elg sM gM) (bA A se) (L - 1)) 1 n → z'.1 29 i = jI (pk (fL (elg sM gM) (bA A se) (L - 1)) 1 n i) := fun i hi => (hz' 29 i rfl).1.trans (hc i hi)
        have L0 : L = 0 ↔ cnt (fL (elg sM gM) (bA A se) (L - 1)) 1 n = 0 := by
          constructor
          · intro h
            refine cnt_none (fun p hp h1 => ?_)
            have h2 := (lst_le (b := bA A se) hp (fL_1.mp h1).1).1
            rw [hL] at h2; exact h2 h
          · intro h
            by_cases c : L = 0
            · exact c
            · obtain ⟨p, hp, h1, h2⟩ := lst_at (e := elg sM gM) (b := bA A se) (n := n) (by rw [hL]; exact c)
              rw [hL] at h2
              have := cnt_has (f := fL (elg sM gM) (bA A se) (L - 1)) (c := 1) hp (fL_1.mpr ⟨h1, by omega⟩)
              omega
        show ((jI _ = 0) → J_S_listCandidates_64 _ Q 0 (jI (bA A se n)) (jI n) (jI (bA A se n)) z') ∧ _
        refine ⟨fun hz0 => ?_, fun hz0 => ?_⟩
        · rw [show (0 : Int32) = jI 0 from rfl, jI_eq (by omega) (by decide), ← L0] at hz0
          refine reset hel (fun p hp h1 => ?_) (by rw [hli, if_pos hz0]) z' hzz
          have h2 := (lst_le (b := bA A se) hp h1).1
          rw [hL] at h2; exact absurd hz0 h2
        · rw [show (0 : Int32) = jI 0 from rfl, jI_eq (by omega) (by decide), ← L0] at hz0
          rw [if_neg hz0] at hli
          show ((jI (L - 1) ≤ jI (bA A se n)) → J_S_listCandidates_64 _ Q _ (jI (L - 1)) (jI n) (jI (bA A se n)) z') ∧ ((¬ jI (L - 1) ≤ jI (bA A se n)) → J_S_listCandidates_64 _ Q 0 (jI (bA A se n)) (jI n) (jI (bA A se n)) z')
          rw [jI_le (by omega) (by omega)]
          refine ⟨fun hle => ?_, fun hgt => ?_⟩
          · rw [Nat.min_eq_left (by omega)] at hli
            have := ih' z' hzz
            rw [hli] at this
            refine ⟨fun hne => ex1 ?_, fun he' => ?_⟩
            · rw [jI_eq (by omega) (by omega)] at hne
              have fn : ¬ fL (elg sM gM) (bA A se) (L - 1) n = 1 := fun h => hne (fL_1.mp h).2
              rw [cnt_off fn] at this
              rw [jI_s]
              refine this (fun i hi => ?_)
              rw [pk_old (fun h => fn h.1)]; exact hc' i hi
            · rw [jI_eq (by omega) (by omega)] at he'
              have fn : fL (elg sM gM) (bA A se) (L - 1) n = 1 := fL_1.mpr ⟨hel, he'⟩
              have := ih' (wI z' 29 (cnt (fL (elg sM gM) (bA A se) (L - 1)) 1 n) (jI n)) (fz_I hzz rfl)
              rw [hli, cnt_at fn] at this
              refine ⟨vp_n (by omega) (by decide), ex1 (ex1 (ex1 ?_))⟩
              rw [jI_tn (n := cnt (fL (elg sM gM) (bA A se) (L - 1)) 1 n) (by omega), jI_s, jI_s]
              refine this (fun i hi => ?_)
              by_cases c : i = cnt (fL (elg sM gM) (bA A se) (L - 1)) 1 n
              · subst c; rw [zI_at, pk_new fn]
              · rw [zI_ne c, pk_old (fun h => c h.2.symm)]; exact hc' i (by omega)
          · refine reset hel (fun p hp h1 => ?_) (by rw [hli, Nat.min_eq_right (by omega)]) z' hzz
            have h2 := (lst_le (b := bA A se) hp h1).2
            rw [hL] at h2; omega
  refine ⟨fun h => absurd h he, fun _ => ⟨fun _ => ?_, fun h => absurd h (by decide)⟩⟩
  exact ⟨_, loop (aN A) 0 zs (by omega) fz_rfl (fun i hi => absurd hi (Nat.not_lt_zero i))⟩
