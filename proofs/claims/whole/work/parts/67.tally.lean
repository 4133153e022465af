/-! The pure side: the tally is built or taken as it is. -/
theorem ht_empty {z : St} (h : ∀ i, i < 2048 → z.1 16 i = -1) : HT (0, fun _ => 0) z :=
  ⟨fun _ => 0, fun i hi => absurd hi (Nat.not_lt_zero i), fun i hi => Or.inl (h i hi), fun i hi => absurd hi (Nat.not_lt_zero i)⟩
theorem pas_fr {S : Nat → Nat → Bool} {z z' : St} (hS : ∀ k, S 18 k = false) (hF : Fz S z z') (h : Pas (z.1 18)) : Pas (z'.1 18) := by
  intro n k hn hk
  rw [(hF 18 _ (hS _)).1]; exact h n k hn hk
theorem s16_su (c k : Nat) (e : Su c k = false) : S16 c k = false := by
  have h := su_out e
  rw [beq_eq_false_iff_ne]; omega
theorem s_build {A : Ab} {z : St} {Q : St → Prop} (hW : WF A) (oK : OK A z) (oV : OV A z) (hq7 : ∀ q, q < 12 → z.1 7 q = jI (lO A q)) (hq8 : ∀ q, q < 12 → z.1 8 q = jI (hI A q)) (hP : Pas (z.1 18)) (h17 : z.1 17 0 = 0)
    (hQ : ∀ z', Fz Su z z' → TOK A z' → z'.1 17 0 = 0 → z'.1 9 12 = 0 ∨ z'.1 9 11 = 1 → Q z') : P_T_build (jI (sZ A)) z Q := by
  refine s_fill (fun z1 hF1 h1 => ex1 (ex1 (ex1 ?_)))
  generalize hz4 : wI (wI (wI z1 9 10 0) 9 11 0) 9 12 0 = z4
  have hF4 : Fz Su z z4 := by rw [← hz4]; exact fz_I (fz_I (fz_I (fz_mono hF1 s16_su) rfl) rfl) rfl
  have e16 : ∀ i, i < 2048 → z4.1 16 i = -1 := by rw [← hz4]; exact h1
  have e10 : z4.1 9 10 = jI 0 := by rw [← hz4]; rfl
  have e11 : z4.1 9 11 = 0 := by rw [← hz4]; rfl
  have e12 : z4.1 9 12 = 0 := by rw [← hz4]; rfl
  refine s_stateOf (G := (0, fun _ => 0)) (x := 0) (by decide) (by decide) (fun i hi => absurd hi (Nat.not_lt_zero i)) e10 (fun i hi => absurd hi (Nat.not_lt_zero i)) (ht_empty e16) (fun i hi => absurd hi (Nat.not_lt_zero i)) (fun _ _ z5 hF5 t1 t2 t3 t4 t5 => ?_) (fun _ he => absurd he (by decide))
  have hF : Fz Su z z5 := fz_trans hF4 (fz_mono hF5 sn_su)
  have eG : (0 + 1, fup (fun _ => 0) 0 0) = (pr A 0).1 := by
    show ((1 : Nat), fup (fun _ => 0) 0 0) = (1, fun _ => 0)
    rw [show fup (fun _ => 0) 0 0 = fun _ => 0 from funext (fun p => by unfold fup; split <;> rfl)]
  have oK5 : OK A z5 := ok_fr ⟨rfl, fun _ => rfl, fun _ => rfl⟩ hF oK
  have hq85 : ∀ q, q < 12 → z5.1 8 q = jI (hI A q) := fun q hq => (hF 8 q rfl).1.trans (hq8 q hq)
  have e1712 : z5.1 17 0 = 0 := by
    rw [(hF5 17 0 rfl).1, ← hz4]
    show z1.1 17 0 = 0
    rw [(hF1 17 0 rfl).1]; exact h17
  have hT : TB A 0 (sT A 0) (pr A 0).1 z5 := by
    rw [← eG]
    refine ⟨⟨t2, (hF5 9 11 rfl).1.trans e11, by decide, t3, t1⟩, fun p hp => ?_, fun m s hm => absurd hm (Nat.not_lt_zero m), fun s _ hs => absurd hs (Nat.not_lt_zero s)⟩
    have : p = 0 := by
      have hp' : p < 1 := hp
      omega
    subst this
    exact Or.inl t5
  refine ⟨_, s_build31 (zs := z5) hW oK5 hq85 (fun z6 hF6 hE h12 => ?_) (fun z6 hF6 h1 hlt h170 => ?_) (kN A) 0 z5 (by omega) fz_rfl rfl (fun m hm => ?_) hT⟩
  · have hF' := fz_trans hF hF6
    refine ⟨fun h => absurd hE.2.1 h, fun _ => ?_⟩
    refine s_countAhead hW (ok_fr ⟨rfl, fun _ => rfl, fun _ => rfl⟩ hF' oK) (ov_fr (fun _ => rfl) hF' oV) (fun q hq => (hF' 7 q rfl).1.trans (hq7 q hq)) hE (pas_fr (fun _ => rfl) hF' hP) (fun z7 hF7 hA => ?_)
    have hE7 := en_fr hF7 hE
    refine hQ z7 (fz_trans hF' (fz_mono hF7 s14_su)) (Or.inr ⟨hE7.2.1, hE7.2.2.1, hE7, hA⟩) (hE7.2.2.2.1 0 (Nat.zero_le _)) (Or.inl ?_)
    rw [(hF7 9 12 rfl).1, h12, (hF5 9 12 rfl).1]; exact e12
  · have hF' := fz_trans hF hF6
    have hq := hQ z6 hF' (Or.inl ⟨h1, hlt⟩) h170 (Or.inr h1)
    exact ⟨fun _ => hq, fun h => absurd (h.symm.trans h1) (by decide)⟩
  · have : m = 0 := by omega
    subst this; exact e1712
abbrev Sv : Nat → Nat → Bool := fun c k => (c == 0 && k == 10) || Su c k
theorem su_sv (c k : Nat) (e : Sv c k = false) : Su c k = false := by
  rw [Bool.or_eq_false_iff] at e; exact e.2
theorem s_refresh {A : Ab} {z : St} {Q : St → Prop} (hW : WF A) (oK : OK A z) (oV : OV A z) (oQ : OQ A z) (oS : OS A z) (hP : Pas (z.1 18)) (h17 : z.1 17 0 = 0) (hC : z.1 0 10 = 0 ∨ (z.1 0 10 = 1 ∧ TOK A z))
    (keep : z.1 0 10 = 1 → TOK A z → Q z) (build : z.1 0 10 = 0 → ∀ z', Fz Sv z z' → z'.1 0 10 = 1 → TOK A z' → z'.1 17 0 = 0 → z'.1 9 12 = 0 ∨ z'.1 9 11 = 1 → Q z') : P_O_refreshTally z Q := by
  refine ⟨fun h => ?_, fun h => ?_⟩
  · rcases hC with h0 | ⟨h1, h2⟩
    · exact absurd h0 h
    · exact keep h1 h2
  · rw [show z.1 0 8 = jI (sZ A) from oS]
    refine s_build hW oK oV oQ.1 oQ.2 hP h17 (fun z' hF hT h170 h12 => ex1 (build h _ (fz_I (fz_mono hF su_sv) rfl) rfl ?_ h170 h12))
    rcases hT with hT | ⟨a, b, hE, hA⟩
    · exact Or.inl hT
    · exact Or.inr ⟨a, b, hE, hA⟩
