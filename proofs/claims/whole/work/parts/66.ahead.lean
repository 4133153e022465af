/-! The pure side: how many ways lead on, for every state; the tally fresh or refused. -/
abbrev S14 : Nat → Nat → Bool := fun c _ => c == 14
theorem s14_su (c k : Nat) (e : Su c k = false) : S14 c k = false := by
  have h := su_out e
  rw [beq_eq_false_iff_ne]; omega
theorem en_fr {A : Ab} {z z' : St} (hF : Fz S14 z z') (h : EN A z) : EN A z' := by
  obtain ⟨e9, e11, hlen, e17, e10, hL⟩ := h
  refine ⟨(hF 9 10 rfl).1.trans e9, (hF 9 11 rfl).1.trans e11, hlen, fun m hm => (hF 17 m rfl).1.trans (e17 m hm), fun i hi => (hF 10 i rfl).2.trans (e10 i hi), fun m s hm h1 h2 => ?_⟩
  obtain ⟨l11, ⟨i0, hi0, ei0, l12⟩, lnx⟩ := hL m s hm h1 h2
  refine ⟨(hF 11 s rfl).1.trans l11, ⟨i0, hi0, ei0, (hF 12 s rfl).1.trans l12⟩, fun j hj i hi ei => ?_⟩
  obtain ⟨i', hi', ei', e13⟩ := lnx j hj i hi ei
  exact ⟨i', hi', ei', (hF 13 i rfl).1.trans e13⟩
theorem s_ca75 {A : Ab} {k : Nat} {zs : St} {K : Int32 → St → Prop} {Q : St → Prop} (hW : WF A) (hk : k < kN A) (oK : OK A zs) (hE : EN A zs) (hP : Pas (zs.1 18))
    (hK : ∀ z', Fz S14 zs z' → AH A k z' → K (jI k) z') : ∀ (d s : Nat) (z : St), s + d = sT A (k + 1) → sT A k ≤ s → Fz S14 zs z → AH A (k + 1) z → (∀ i, sT A k ≤ i → i < s → z.2 14 i = jL (wy A (kN A - k) ((GN A).2 i))) → L_T_countAhead_75 K Q (d + 1) (jI k) (jI s) z := by
  intro d
  have h16 := hW.2.1
  have hlen := hE.2.2.1
  have hs1 := sT_len (A := A) (k := k) (by omega)
  induction d with
  | zero =>
    intro s z hs h1 hz hA hd
    have h17 := (en_fr hz hE).2.2.2.1 (k + 1) (by omega)
    unfold L_T_countAhead_75
    rw [show (1 : Int32) = jI 1 from rfl, jI_add, jI_tn (by omega), h17, jI_le (by omega) (by omega)]
    refine ⟨vp_n (by omega) (by decide), fun _ => hK z hz (fun m i a1 a2 a3 a4 => ?_), fun hn => absurd (by omega) hn⟩
    by_cases e : m = k
    · subst e; exact hd i a3 (by omega)
    · exact hA m i (by omega) a2 a3 a4
  | succ d ih =>
    intro s z hs h1 hz hA hd
    have hEz := en_fr hz hE
    have h17 := hEz.2.2.2.1 (k + 1) (by omega)
    have oKz : OK A z := ok_fr ⟨rfl, fun _ => rfl, fun _ => rfl⟩ hz oK
    have hPz : Pas (z.1 18) := by
      intro n k hn hk
      rw [(hz 18 _ rfl).1]; exact hP n k hn hk
    unfold L_T_countAhead_75
    rw [show (1 : Int32) = jI 1 from rfl, jI_add, jI_tn (by omega), h17, jI_le (by omega) (by omega)]
    refine ⟨vp_n (by omega) (by decide), fun hn => absurd hn (by omega), fun _ => ⟨vp_n (by omega) (by decide), ?_⟩⟩
    rw [jI_tn (by omega), oKz.2.2 k hk]
    refine s_ahead hW hk h1 (by omega) hEz hPz hA ⟨vp_n (by omega) (by decide), ex1 (ex1 ?_)⟩
    rw [jI_tn (by omega), jI_add]
    refine ih (s + 1) _ (by omega) (by omega) (fz_L hz rfl) (fun m i a1 a2 a3 a4 => ?_) (fun i a1 a2 => ?_)
    · have hmo := sT_mono hW (k := k + 1) (d := m - (k + 1)) (by omega)
      rw [show k + 1 + (m - (k + 1)) = m by omega] at hmo
      rw [zL_ne (by omega)]; exact hA m i a1 a2 a3 a4
    · by_cases e : i = s
      · subst e; exact zL_at
      · rw [zL_ne e]; exact hd i a1 (by omega)
theorem s_ca63 {A : Ab} {zs : St} {Q : St → Prop} (hW : WF A) (oK : OK A zs) (hE : EN A zs) (hP : Pas (zs.1 18)) (hQ : ∀ z', Fz S14 zs z' → AH A 0 z' → Q z') :
    ∀ (k : Nat) (z : St), k ≤ kN A → Fz S14 zs z → AH A k z → L_T_countAhead_63 Q (k + 1) (jI k - 1) z := by
  intro k
  have h16 := hW.2.1
  have hlen := hE.2.2.1
  induction k with
  | zero =>
    intro z _ hz hA
    exact ⟨fun _ => hQ z hz hA, fun hn => absurd (by decide) hn⟩
  | succ k ih =>
    intro z hk hz hA
    have h17 := (en_fr hz hE).2.2.2.1 k (by omega)
    have oKz : OK A z := ok_fr ⟨rfl, fun _ => rfl, fun _ => rfl⟩ hz oK
    have hPz : Pas (z.1 18) := by
      intro n k hn hk
      rw [(hz 18 _ rfl).1]; exact hP n k hn hk
    have hle := sT_le hW (k := k) (by omega)
    rw [jI_p (by omega), show k + 1 - 1 = k by omega]
    refine ⟨fun hn => absurd hn (jI_nn (by omega)), fun _ => ⟨vp_n (by omega) (by decide), ex1 ?_⟩⟩
    rw [jI_tn (by omega), h17]
    refine ⟨_, s_ca75 (zs := z) hW (by omega) oKz (en_fr hz hE) hPz (fun z' hz' hA' => ex1 (p := fun y => L_T_countAhead_63 Q (k + 1) y z') (ih z' (by omega) (fz_trans hz hz') hA')) (sT A (k + 1) - sT A k) (sT A k) z (by omega) (Nat.le_refl _) fz_rfl hA (fun i a1 a2 => absurd a2 (by omega))⟩
theorem s_countAhead {A : Ab} {z : St} {Q : St → Prop} (hW : WF A) (oK : OK A z) (oV : OV A z) (hq7 : ∀ q, q < 12 → z.1 7 q = jI (lO A q)) (hE : EN A z) (hP : Pas (z.1 18)) (hQ : ∀ z', Fz S14 z z' → AH A 0 z' → Q z') : P_T_countAhead (jI (sZ A)) z Q := by
  have h16 := hW.2.1
  have hlen := hE.2.2.1
  have hs0 := sT_le hW (k := kN A) (Nat.le_refl _)
  have hgn := gn_len A
  have loop : ∀ (K : St → Prop), (∀ z', Fz S14 z z' → AH A (kN A) z' → K z') → ∀ (d i : Nat) (z' : St), i + d = (GN A).1 → sT A (kN A) ≤ i → Fz S14 z z' → (∀ i', sT A (kN A) ≤ i' → i' < i → z'.2 14 i' = jL (wy A 0 ((GN A).2 i'))) → L_T_countAhead_13 K Q (d + 1) (jI (sZ A)) (jI i) z' := by
    intro K hK d
    induction d with
    | zero =>
      intro i z' hi h1 hz hd
      have e9 := (en_fr hz hE).1
      refine ⟨fun _ => hK z' hz (fun m i' a1 a2 a3 a4 => ?_), fun hn => absurd ?_ hn⟩
      · have : m = kN A := by omega
        subst this
        rw [Nat.sub_self]
        exact hd i' a3 (by omega)
      · rw [e9, jI_le (by omega) (by omega)]; omega
    | succ d ih =>
      intro i z' hi h1 hz hd
      obtain ⟨e9, e11, _, e17, e10, hL⟩ := en_fr hz hE
      have hv := gn_vr hW (Nat.le_refl _) h1 (by omega)
      have hr := Nat.lt_of_lt_of_le (vr_lt h16 hv) (by decide : 17 * 16 ^ 13 ≤ 9223372036854775808)
      have h8 := vr_le8 hW hv (q := 12) (by decide)
      have upd : ∀ x : Int64, x = jL (wy A 0 ((GN A).2 i)) → L_T_countAhead_13 K Q (d + 1) (jI (sZ A)) (jI (i + 1)) (wL z' 14 i x) := by
        intro x hx
        refine ih (i + 1) _ (by omega) (by omega) (fz_L hz rfl) (fun i' a1 a2 => ?_)
        by_cases e : i' = i
        · subst e; rw [zL_at]; exact hx
        · rw [zL_ne e]; exact hd i' a1 (by omega)
      refine ⟨fun hn => absurd hn ?_, fun _ => ⟨vp_n (by omega) (by decide), ?_⟩⟩
      · rw [e9, jI_le (by omega) (by omega)]; omega
      rw [jI_tn (by omega), e10 i (by omega)]
      refine s_isPanel hW hr h8 (ov_fr (fun _ => rfl) hz oV) (fun q hq => (hz 7 q rfl).1.trans (hq7 q hq)) ⟨fun h0 => ⟨vp_n (by omega) (by decide), ex1 (ex1 ?_)⟩, fun h1 => ⟨vp_n (by omega) (by decide), ex1 (ex1 ?_)⟩⟩
      · rw [jI_s]
        refine upd 0 ?_
        cases hb : panB A ((GN A).2 i) 12 with
        | true => rw [hb] at h0; exact absurd h0 (by decide)
        | false => unfold wy; rw [hb]; rfl
      · rw [jI_s]
        refine upd 1 ?_
        cases hb : panB A ((GN A).2 i) 12 with
        | true => unfold wy; rw [hb]; rfl
        | false => rw [hb] at h1; exact absurd rfl h1
  unfold P_T_countAhead
  rw [oK.1, jI_tn (by omega), hE.2.2.2.1 (kN A) (Nat.le_refl _)]
  refine ⟨vp_n (by omega) (by decide), ex1 ⟨_, loop _ (fun z' hz hA => ?_) ((GN A).1 - sT A (kN A)) (sT A (kN A)) z (by omega) (Nat.le_refl _) fz_rfl (fun i' a1 a2 => absurd a2 (by omega))⟩⟩
  have oKz : OK A z' := ok_fr ⟨rfl, fun _ => rfl, fun _ => rfl⟩ hz oK
  have hPz : Pas (z'.1 18) := by
    intro n k hn hk
    rw [(hz 18 _ rfl).1]; exact hP n k hn hk
  rw [oKz.1]
  exact ex1 ⟨_, s_ca63 (zs := z') hW oKz (en_fr hz hE) hPz (fun z'' hz' hA' => hQ z'' (fz_trans hz hz') hA') (kN A) z' (Nat.le_refl _) fz_rfl hA⟩
/-- what a tally that was built holds: refused, or all its numbers -/
def TAB (A : Ab) (z : St) : Prop := EN A z ∧ AH A 0 z
def TOK (A : Ab) (z : St) : Prop := (z.1 9 11 = 1 ∧ 1001 < (GN A).1) ∨ (z.1 9 11 = 0 ∧ (GN A).1 ≤ 1001 ∧ TAB A z)
