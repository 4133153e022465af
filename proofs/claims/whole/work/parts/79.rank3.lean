/-! The pure side: rank, by the reference. -/
theorem m_rk161 {A : Ab} {μ : Nat → Bool} {z : St} {Q : Int64 → St → Prop} (hW : WF A) (rK : RK A z) (rP : RP A z) (hM : MR A μ z) (hR : RAB A z) :
    ∀ (d k s acc : Nat), k + d = kN A → sT A k ≤ s → s < sT A (k + 1) → PV A μ d k ((GN A).2 s) → Q (jL (rkA A μ d k ((GN A).2 s) acc)) z → L_M_rank_161 Q (d + 1) (jL acc) (jI s) (jI k) z := by
  intro d
  have h16 := hW.2.1
  have h40 := hW.1
  induction d with
  | zero =>
    intro k s acc hk h1 h2 hp hQ
    have hk' : k = kN A := by omega
    subst hk'
    refine ⟨fun _ => hQ, fun hn => absurd ?_ hn⟩
    rw [rK.1]; exact Int32.le_refl _
  | succ d ih =>
    intro k s acc hk h1 h2 hp hQ
    have hkk : k < kN A := by omega
    have hlen := hR.1.1.2.2.2.1
    have l1 := sT_len (A := A) (k := k) (by omega)
    have hvr := gn_vr hW (by omega) h1 h2
    have t8 := tk8 (k := k) (r := (GN A).2 s) hW
    have hkh := kH_le hW.2.2.1 hkk
    have hnk := nk_le (A := A) (μ := μ) hW hkk
    have hKk := hW.2.2.1.2.1 k hkk
    obtain ⟨hle, hpv⟩ := hp
    refine ⟨fun h => absurd h ?_, fun _ => ?_⟩
    · rw [rK.1, jI_le (by omega) (by omega)]; omega
    -- the marked of the kind are counted
    have cl : ∀ (K : Int64 → Int32 → Int32 → Int32 → St → Prop), K (jL acc) (jI s) (jI k) (jI (nk A μ k)) z → ∀ (e p : Nat), p + e = aN A → L_M_rank_176 K Q (e + 1) (jL acc) (jI s) (jI k) (jI (cm (aC A) (kC A k) μ p)) (jI p) z := by
      intro K hK e
      induction e with
      | zero =>
        intro p hp
        refine ⟨fun _ => ?_, fun hn => absurd ?_ hn⟩
        · rw [show p = aN A by omega]; exact hK
        · rw [rP.1, jI_le (by omega) (by omega)]; omega
      | succ e ihe =>
        intro p hp
        have hc := (hW.2.2.2.1 p (by omega)).1
        have ih' := ihe (p + 1) (by omega)
        refine ⟨fun h => absurd h ?_, fun _ => ⟨vp_n (by omega) (by decide), fun h0 => ex1 (ex1 ?_), fun h1 => m_is (by omega) hc (fun t ht => rP.2 p (by omega) t ht) ⟨vp_n (by omega) (by decide), fun hne => ex1 (ex1 ?_), fun he => ex1 (ex1 ?_)⟩⟩⟩
        · rw [rP.1, jI_le (by omega) (by omega)]; omega
        · rw [jI_tn (by omega), hM p (by omega), bI_0] at h0
          rw [cm_out (fun h => by rw [h0] at h; exact absurd h.2 (by decide))] at ih'
          rw [show (0 : Int32) = jI 0 from rfl, jI_add, jI_s]; exact ih'
        · rw [jI_tn (by omega), rK.2.1 k hkk, jI_eq (by omega) (by omega)] at hne
          rw [cm_out (fun h => hne h.1)] at ih'
          rw [show (0 : Int32) = jI 0 from rfl, jI_add, jI_s]; exact ih'
        · rw [jI_tn (by omega), rK.2.1 k hkk, jI_eq (by omega) (by omega)] at he
          rw [jI_tn (by omega), hM p (by omega), bI_0] at h1
          have hb : μ p = true := by cases h : μ p with
            | false => exact absurd h h1
            | true => rfl
          rw [cm_in he hb] at ih'
          rw [jI_s, jI_s]; exact ih'
    -- the blocks before are added
    have bl : ∀ (K : Int64 → Int32 → Int32 → Int32 → St → Prop), K (jL (acc + sm (fB A k ((GN A).2 s)) (nk A μ k))) (jI s) (jI k) (jI (nk A μ k)) z → ∀ (e j : Nat), j + e = nk A μ k → L_M_rank_230 K Q (e + 1) (jL (acc + sm (fB A k ((GN A).2 s)) j)) (jI s) (jI k) (jI (nk A μ k)) (jI j) z := by
      intro K hK e
      induction e with
      | zero =>
        intro j hj
        refine ⟨fun _ => ?_, fun hn => absurd ?_ hn⟩
        · rw [show j = nk A μ k by omega]; exact hK
        · rw [jI_le (by omega) (by omega)]; omega
      | succ e ihe =>
        intro j hj
        refine ⟨fun h => absurd h ?_, fun _ => ⟨vp_n (by omega) (by decide), m_adds hW hkk rK ?_⟩⟩
        · rw [jI_le (by omega) (by omega)]; omega
        rw [jI_s, jI_tn (by omega), hR.1.1.2.2.2.2.1 s (by omega)]
        refine m_next hW hkk h1 h2 hR.1 (by omega) (by omega) (fun _ i c1 c2 hi ei => ⟨vp_n (by omega) (by decide), vp_n (by omega) (by decide), ?_⟩) (fun h => absurd (by omega) h)
        rw [jI_tn (n := k) (by omega), rK.2.2 k hkk]
        refine m_choose (by omega) (by omega) (ex1 (ex1 ?_))
        rw [jI_tn (by omega), rab_wy hW hR (m := k + 1) (by omega) c1 c2, ei, jL_mul, jL_add, jI_s, Nat.mul_comm, Nat.add_assoc]
        exact ihe (j + 1) (by omega)
    refine ⟨_, cl _ ⟨_, bl _ ⟨vp_n (by omega) (by decide), m_adds hW hkk rK ?_⟩ (nk A μ k) 0 (by omega)⟩ (aN A) 0 (by omega)⟩
    rw [jI_s, jI_tn (by omega), hR.1.1.2.2.2.2.1 s (by omega)]
    refine m_next hW hkk h1 h2 hR.1 (by omega) (by omega) (fun _ p c1 c2 hp ep => ⟨vp_n (by omega) (by decide), ?_⟩) (fun h => absurd hle h)
    refine m_index hW hkk rK rP hM (by omega) (ex1 (ex1 ?_))
    rw [jI_tn (by omega), rab_wy hW hR (m := k + 1) (by omega) c1 c2, ep, jL_mul, jL_add, Nat.mul_comm]
    refine ih (k + 1) p _ (by omega) c1 c2 (by rw [ep]; exact hpv) ?_
    rw [ep]
    exact hQ
abbrev Sw0 : Nat → Nat → Bool := fun c k => (c == 31 && k == 0) || Sw1 c k
theorem sw1_sw0 (c k : Nat) (e : Sw0 c k = false) : Sw1 c k = false := by
  rw [Bool.or_eq_false_iff] at e; exact e.2
theorem sw1_cells {z z' : St} (hF : Fz Sw1 z z') : True := trivial
theorem rp_sw1 {A : Ab} {z z' : St} (hF : Fz Sw1 z z') (h : RP A z) : RP A z' := rp_fr ⟨rfl, fun _ => rfl⟩ hF h
theorem rm_sw1 {A : Ab} {z z' : St} (hF : Fz Sw1 z z') (h : RM A z) : RM A z' := rm_fr ⟨rfl, rfl, fun _ => rfl, fun _ => rfl, fun _ => rfl, fun _ => rfl, fun _ => rfl⟩ hF h
abbrev S310 : Nat → Nat → Bool := fun c k => c == 31 && k == 0
theorem rab_0fr {A : Ab} {z : St} {y : Int32} (h : RAB A z) : RAB A (wI z 31 0 y) := h
theorem rok_0fr {A : Ab} {z : St} {y : Int32} (h : ROK A z) : ROK A (wI z 31 0 y) := h
theorem m_rank {A : Ab} {μ : Nat → Bool} {z : St} {Q : Int64 → St → Prop} (hW : WF A) (rM : RM A z) (rP : RP A z) (hM : MR A μ z) (hC : z.1 31 11 = 0 ∨ ROK A z)
    (too : 1001 < (GN A).1 → ∀ z', Fz Sw0 z z' → z'.1 31 11 = 1 → ROK A z' → z'.1 31 0 = 2 → Q 0 z') (no : (GN A).1 ≤ 1001 → ¬ PV A μ (kN A) 0 0 → ∀ z', Fz Sw0 z z' → z'.1 31 11 = 1 → ROK A z' → z'.1 31 0 = 1 → Q 0 z') (yes : (GN A).1 ≤ 1001 → PV A μ (kN A) 0 0 → ∀ z', Fz Sw0 z z' → z'.1 31 11 = 1 → ROK A z' → z'.1 31 0 = 0 → Q (jL (rkA A μ (kN A) 0 0 0)) z') : P_M_rank z Q := by
  have h16 := hW.2.1
  have h40 := hW.1
  have i8 := hW.2.2.2.2.2.2.2
  refine m_counts hW rM hC (fun hle z1 hz1 e11 hR hB => ⟨fun h => absurd h (by decide), fun _ => ?_⟩) (fun hgt z1 hz1 e11 hR => ⟨fun _ => ex1 ⟨fun h => absurd h n2_0, fun _ => too hgt _ (fz_I (fz_mono hz1 sw1_sw0) rfl) e11 (rok_0fr hR) rfl⟩, fun h => absurd rfl h⟩)
  refine ex1 ⟨fun _ => ?_, fun h => absurd (show (0 : Int32) ≤ 0 by decide) h⟩
  have hz2 : Fz Sw0 z (wI z1 31 0 0) := fz_I (fz_mono hz1 sw1_sw0) rfl
  have rM1 := rm_sw1 hz1 rM
  have rP1 := rp_sw1 hz1 rP
  have rM2 : RM A (wI z1 31 0 0) := rM1
  have rP2 : RP A (wI z1 31 0 0) := rP1
  have hM2 : MR A μ (wI z1 31 0 0) := fun p hp => (hz1 33 p rfl).1.trans (hM p hp)
  have hB2 : RAB A (wI z1 31 0 0) := rab_0fr hB
  have hR2 : ROK A (wI z1 31 0 0) := rok_0fr hR
  have e2 : (wI z1 31 0 0).1 31 11 = 1 := e11
  generalize wI z1 31 0 0 = z2 at *
  have eN : ws (aC A) μ (fun _ => 1) (aN A) = nA A μ (kN A) := by
    rw [ws_kinds hW μ _ _ (Nat.le_refl _)]
    exact sm_congr (fun k _ => Nat.mul_one _)
  have eO : ws (aC A) μ ad (aN A) = oA A μ (kN A) := ws_kinds hW μ _ _ (Nat.le_refl _)
  have wl : ∀ n, ws (aC A) μ (fun _ => 1) n ≤ n := by
    intro n
    induction n with
    | zero => exact Nat.le_refl _
    | succ n ih =>
      show ws (aC A) μ (fun _ => 1) n + (if μ n = true then 1 else 0) ≤ n + 1
      split <;> omega
  -- all the marked are counted
  have c32 : ∀ (K : Int64 → Int32 → St → Prop), K 0 (jI (nA A μ (kN A))) z2 → ∀ (e p : Nat), p + e = aN A → L_M_rank_32 K Q (e + 1) 0 (jI (ws (aC A) μ (fun _ => 1) p)) (jI p) z2 := by
    intro K hK e
    induction e with
    | zero =>
      intro p hp
      refine ⟨fun _ => ?_, fun hn => absurd ?_ hn⟩
      · rw [show p = aN A by omega, eN]; exact hK
      · rw [rP2.1, jI_le (by omega) (by omega)]; omega
    | succ e ih =>
      intro p hp
      have ih' := ih (p + 1) (by omega)
      have es : ws (aC A) μ (fun _ => 1) (p + 1) = ws (aC A) μ (fun _ => 1) p + if μ p = true then 1 else 0 := rfl
      refine ⟨fun h => absurd h ?_, fun _ => ⟨vp_n (by omega) (by decide), fun h0 => ex1 (ex1 ?_), fun h1 => ex1 (ex1 ?_)⟩⟩
      · rw [rP2.1, jI_le (by omega) (by omega)]; omega
      · rw [jI_tn (by omega), hM2 p (by omega), bI_0] at h0
        rw [es, h0, if_neg (by decide)] at ih'
        rw [show (0 : Int32) = jI 0 from rfl, jI_add, jI_s]; exact ih'
      · rw [jI_tn (by omega), hM2 p (by omega), bI_0] at h1
        have hb : μ p = true := by cases h : μ p with
          | false => exact absurd h h1
          | true => rfl
        rw [es, if_pos hb] at ih'
        rw [jI_s, jI_s]; exact ih'
  have hnl : nA A μ (kN A) ≤ 40 := by rw [← eN]; have := wl (aN A); omega
  have c68 : ∀ (K : Int64 → Int32 → St → Prop), nA A μ (kN A) = sZ A → K (jL (oA A μ (kN A))) (jI (nA A μ (kN A))) z2 → ∀ (e p : Nat), p + e = aN A → L_M_rank_68 K Q (e + 1) (jL (ws (aC A) μ ad p)) (jI (nA A μ (kN A))) (jI p) z2 := by
    intro K hN hK e
    induction e with
    | zero =>
      intro p hp
      refine ⟨fun _ => ?_, fun hn => absurd ?_ hn⟩
      · rw [show p = aN A by omega, eO]; exact hK
      · rw [rP2.1, jI_le (by omega) (by omega)]; omega
    | succ e ih =>
      intro p hp
      have ih' := ih (p + 1) (by omega)
      have es : ws (aC A) μ ad (p + 1) = ws (aC A) μ ad p + if μ p = true then ad (aC A p) else 0 := rfl
      refine ⟨fun h => absurd h ?_, fun _ => ⟨fun h => absurd ?_ h, fun _ => ⟨vp_n (by omega) (by decide), fun h0 => ex1 (ex1 ?_), fun h1 => m_kindOf hW rM2.1 rP2 (by omega) (fun k hk ek => m_adds hW hk rM2.1 (ex1 (ex1 ?_)))⟩⟩⟩
      · rw [rP2.1, jI_le (by omega) (by omega)]; omega
      · rw [rM2.2.2.2, hN]
      · rw [jI_tn (by omega), hM2 p (by omega), bI_0] at h0
        rw [es, h0, if_neg (by decide)] at ih'
        rw [show (0 : Int64) = jL 0 from rfl, jL_add, jI_s]; exact ih'
      · rw [jI_tn (by omega), hM2 p (by omega), bI_0] at h1
        have hb : μ p = true := by cases h : μ p with
          | false => exact absurd h h1
          | true => rfl
        rw [es, if_pos hb] at ih'
        rw [jL_add, jI_s, ek]; exact ih'
  have j1 : ¬ PV A μ (kN A) 0 0 → J_M_rank_140 Q 1 z2 := fun hn => ex1 ⟨fun h => absurd h n1_0, fun _ => no hle hn _ (fz_I hz2 rfl) e2 (rok_0fr hR2) rfl⟩
  have c68' : ∀ (K : Int64 → Int32 → St → Prop), ¬ nA A μ (kN A) = sZ A → K 0 (jI (nA A μ (kN A))) z2 → L_M_rank_68 K Q 1 0 (jI (nA A μ (kN A))) 0 z2 := by
    intro K hN hK
    refine ⟨fun _ => hK, fun _ => ⟨fun _ => hK, fun h => absurd ?_ hN⟩⟩
    rw [rM2.2.2.2, jI_eq (by omega) (by omega)] at h; exact h
  refine ⟨_, c32 _ ?_ (aN A) 0 (by omega)⟩
  by_cases hN : nA A μ (kN A) = sZ A
  · refine ⟨_, c68 _ hN ⟨fun h => absurd (by rw [rM2.2.2.2, hN]) h, fun _ => ?_⟩ (aN A) 0 (by omega)⟩
    have hlt : oA A μ (kN A) < 9223372036854775808 := by
      have h1 := oA_lt (A := A) (μ := μ) (kN A)
      rw [hN] at h1
      exact Nat.lt_of_le_of_lt (Nat.le_trans h1 (Nat.mul_le_mul_right _ i8)) (by decide)
    refine m_isPanel hW hlt rM2.2.1 rM2.2.2.1 rM2.2.2.2 ⟨fun h0 => j1 (fun hp => ?_), fun h1 => ?_⟩
    · have := ((pv_iff hW).mp hp).2
      unfold PanR at this
      rw [this] at h0; exact absurd h0 (by decide)
    · have hpr : PanR A (oA A μ (kN A)) := by
        unfold PanR
        cases hb : gB A (decide (al (oA A μ (kN A)) = sZ A) && alB A (oA A μ (kN A))) (fun q => decide (lO A q ≤ hd (oA A μ (kN A)) q)) 12 with
        | false => rw [hb] at h1; exact absurd rfl h1
        | true => rfl
      have hpv := (pv_iff hW).mpr ⟨hN, hpr⟩
      refine ex1 ⟨fun _ => ?_, fun h => absurd (show (0 : Int32) ≤ 0 by decide) h⟩
      have e0 : (GN A).2 0 = 0 := gn_0
      refine ⟨_, m_rk161 (z := wI z2 31 0 0) hW rM2.1 rP2 hM2 (rab_0fr hB2) (kN A) 0 0 0 (by omega) (Nat.zero_le _) (show 0 < 1 by decide) (by rw [e0]; exact hpv) ?_⟩
      rw [e0]
      exact yes hle hpv _ (fz_I hz2 rfl) e2 (rok_0fr hR2) rfl
  · exact ⟨1, c68' _ hN ⟨fun _ => j1 (fun hp => hN ((pv_iff hW).mp hp).1), fun h => absurd (by rw [rM2.2.2.2, jI_eq (by omega) (by omega)] at h; exact h) hN⟩⟩
