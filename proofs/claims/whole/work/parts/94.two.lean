/-! The pure side: the tally built with the quotas of the clash. -/
theorem s_takes_2 {A : Ab} {k r : Nat} {z : St} {Q : Int32 → St → Prop} (hW : WF A) (hk : k < kN A) (hv : VR A k r) (oK : OK A z) (hq8 : ∀ q, q < 12 → z.1 23 q = jI (hI A q)) (h : Q (jI (tk A k r)) z) : P_T_takesFrom2 (jL r) (jI k) (jI (sZ A)) z Q := by
  have hk16 := hW.2.1
  have hK := hW.2.2.1.2.1 k hk
  have hr := vr_lt (by omega) hv
  have hr2 : r < 9223372036854775808 := Nat.lt_of_lt_of_le hr (by decide)
  have h40 := hW.1
  have hle := kH_le hW.2.2.1 hk
  have b0 := q0_lt (kC A k)
  have b1 := q1_lt (kC A k)
  have b2 := q2_lt (kC A k)
  have i0 := (hW.2.2.2.2.2.1 (q0 (kC A k)) (by omega)).2
  have i1 := (hW.2.2.2.2.2.1 (q1 (kC A k)) (by omega)).2
  have i2 := (hW.2.2.2.2.2.1 (q2 (kC A k)) (by omega)).2
  have g0 := (hv.2.2.2 (q0 (kC A k)) (by omega)).1
  have g1 := (hv.2.2.2 (q1 (kC A k)) (by omega)).1
  have g2 := (hv.2.2.2 (q2 (kC A k)) (by omega)).1
  have i8 := hW.2.2.2.2.2.2.2
  have gs := hv.2.2.1
  unfold P_T_takesFrom2
  rw [jI_tn (by omega)]
  refine ⟨vp_n (by omega) (by decide), s_field (q := 12) hr2 (by decide) (ex1 ⟨4, ?_⟩)⟩
  rw [oK.2.2 k hk, jI_sub gs, mmin_j (by omega) (by omega)]
  have e0 : (0 : Int32) * 4 + jI (dg (kC A k) 0) = jI (q0 (kC A k)) := by rw [show (0 : Int32) * 4 = jI 0 from rfl, jI_add, Nat.zero_add]; rfl
  have e1 : ((0 : Int32) + 1) * 4 + jI (dg (kC A k) 1) = jI (q1 (kC A k)) := by rw [show ((0 : Int32) + 1) * 4 = jI 4 from rfl, jI_add]; rfl
  have e2 : ((0 : Int32) + 1 + 1) * 4 + jI (dg (kC A k) 2) = jI (q2 (kC A k)) := by rw [show ((0 : Int32) + 1 + 1) * 4 = jI 8 from rfl, jI_add]; rfl
  refine ⟨fun e => absurd e (by decide), fun _ => ⟨vp_n (by omega) (by decide), ?_⟩⟩
  rw [jI_tn (by omega), oK.2.1 k hk]
  refine s_valueIn (t := 0) hK.1 (by decide) ?_
  show vp_in ((0 : Int32) * 4 + jI (dg (kC A k) 0)) 12 ∧ P_T_field _ ((0 : Int32) * 4 + jI (dg (kC A k) 0)) z _
  rw [e0]
  refine ⟨vp_n (by omega) (by decide), s_field hr2 (by omega) (ex1 (ex1 ?_))⟩
  rw [jI_tn (by omega), hq8 _ (by omega), jI_sub g0, mmin_j (by omega) (by omega)]
  refine ⟨fun e => absurd e (by decide), fun _ => ⟨vp_n (by omega) (by decide), ?_⟩⟩
  rw [jI_tn (by omega), oK.2.1 k hk]
  refine s_valueIn (t := 1) hK.1 (by decide) ?_
  show vp_in (((0 : Int32) + 1) * 4 + jI (dg (kC A k) 1)) 12 ∧ P_T_field _ (((0 : Int32) + 1) * 4 + jI (dg (kC A k) 1)) z _
  rw [e1]
  refine ⟨vp_n (by omega) (by decide), s_field hr2 (by omega) (ex1 (ex1 ?_))⟩
  rw [jI_tn (by omega), hq8 _ (by omega), jI_sub g1, mmin_j (by omega) (by omega)]
  refine ⟨fun e => absurd e (by decide), fun _ => ⟨vp_n (by omega) (by decide), ?_⟩⟩
  rw [jI_tn (by omega), oK.2.1 k hk]
  refine s_valueIn (t := 2) hK.1 (by decide) ?_
  show vp_in (((0 : Int32) + 1 + 1) * 4 + jI (dg (kC A k) 2)) 12 ∧ P_T_field _ (((0 : Int32) + 1 + 1) * 4 + jI (dg (kC A k) 2)) z _
  rw [e2]
  refine ⟨vp_n (by omega) (by decide), s_field hr2 (by omega) (ex1 (ex1 ?_))⟩
  rw [jI_tn (by omega), hq8 _ (by omega), jI_sub g2, mmin_j (by omega) (by omega)]
  exact ⟨fun _ => h, fun e => absurd (by decide) e⟩
theorem al92_2 {A : Ab} {k s b r : Nat} {zs : St} {K : Int32 → Int32 → Int64 → Int32 → Int32 → St → Prop} {Q : St → Prop} {F : Li} (hW : WF A) (hk : k < kN A) (hs : sT A k ≤ s) (hsb : s < b) (hb : b = sT A (k + 1)) (hr : VR A k r)
    (good : ∀ z', Fz Sd zs z' → TB A k (s + 1) F z' → K (jI k) (jI (sZ A)) (jL (16 ^ 12 + ad (kC A k))) (jI b) (jI s) z')
    (bad : ∀ z', Fz Sd zs z' → z'.1 9 11 = 1 → 1001 < F.1 → K (jI k) (jI (sZ A)) (jL (16 ^ 12 + ad (kC A k))) (jI b) (jI s) z') :
    ∀ (n j p : Nat) (G : Li) (z : St), j + n = tk A k r + 1 → 1 ≤ j → F = spr (kC A k) r n j G → G.2 s = r → LPr A k (sT A k) b G → Fz Sd zs z → TB A k s G z → DP A G z k s j → p < G.1 → G.2 p = nxt (kC A k) r (j - 1) → L_T_addLayer2_92 K Q (n + 1) (jI k) (jI (sZ A)) (jL (16 ^ 12 + ad (kC A k))) (jI b) (jI s) (jI p) (jI j) z := by
  intro n
  have t8 : tk A k r ≤ 8 := by
    have := (tk_le.mp (Nat.le_refl (tk A k r))).2.1
    have := hW.2.2.2.2.2.2.2
    omega
  have hm : ∀ (G : Li), b ≤ G.1 → ∀ m s, m ≤ k → sT A m ≤ s → s < sT A (m + 1) → s < G.1 := by
    intro G hG m s h1 _ h3
    have := sT_mono hW (k := m + 1) (d := k - m) (by omega)
    rw [show m + 1 + (k - m) = k + 1 by omega, ← hb] at this
    omega
  induction n with
  | zero =>
    intro j p G z hj h1 hF hG hL hz hT hD hp hpe
    obtain ⟨⟨r1, r2, r3, r4, r5⟩, m1, d1, d2⟩ := id hT
    have hbG := hL.2.1
    refine ⟨vp_n (by omega) (by decide), fun _ => good z hz ?_, fun hn => absurd ?_ hn⟩
    · rw [hF]
      refine ⟨⟨r1, r2, r3, r4, r5⟩, m1, d1, fun s' h2 h3 => ?_⟩
      by_cases e : s' = s
      · subst e
        show DP A G z k s' (tk A k (G.2 s') + 1)
        rw [hG, ← hj]
        exact hD
      · exact d2 s' h2 (by omega)
    · rw [jI_tn (by omega), hD.1, hG, jI_lt (by omega) (by omega)]; omega
  | succ n ih =>
    intro j p G z hj h1 hF hG hL hz hT hD hp hpe
    obtain ⟨⟨r1, r2, r3, r4, r5⟩, m1, d1, d2⟩ := id hT
    have hbG := hL.2.1
    have vprev := vr_nxt hW hk hr (j := j - 1) (by omega)
    have vnow := vr_nxt hW hk hr (j := j) (by omega)
    have enx : nxt (kC A k) r (j - 1) + (16 ^ 12 + ad (kC A k)) = nxt (kC A k) r j := by
      rw [← nxt_s, show j - 1 + 1 = j by omega]
    -- the first j states of s, with the (j-1)-th linked to the j-th
    have link : ∀ (G' : Li) (z' : St) (i : Nat), Pf G G' → DP A G' z' k s j → i < G'.1 → G'.2 i = nxt (kC A k) r j → Nd G' → ¬ z'.1 13 p = -1 → G'.2 s = r → DP A G' z' k s (j + 1) := by
      intro G' z' i hpf hD' hi ei hnd h13 hG'
      refine ⟨hD'.1, fun j' hj' => ?_⟩
      by_cases c : j' = j
      · subst c
        exact ⟨i, hi, by rw [hG']; exact ei, fun h => by omega, fun h => by omega⟩
      · obtain ⟨i', hi', e1, e2, e3⟩ := hD'.2 j' (by omega)
        refine ⟨i', hi', e1, e2, fun h => ?_⟩
        by_cases c2 : j' + 1 = j
        · have : i' = p := by
            refine hnd i' p hi' (Nat.lt_of_lt_of_le hp hpf.1) ?_
            rw [e1, hpf.2 p hp, hpe, hG', show j' = j - 1 by omega]
          rw [this]; exact h13
        · exact e3 (by omega)
    refine ⟨vp_n (by omega) (by decide), fun hlt => absurd hlt ?_, fun _ => ⟨fun h => absurd r2 h, fun _ => ⟨vp_n (by omega) (by decide), fun hge => ⟨vp_n (by omega) (by decide), ex1 (ex1 ?_)⟩, fun hlt => ⟨vp_n (by omega) (by decide), ?_⟩⟩⟩⟩
    · rw [jI_tn (by omega), hD.1, hG, jI_lt (by omega) (by omega)]; omega
    · -- linked already
      rw [jI_tn (by omega)] at hge ⊢
      rcases m1 p hp with h | ⟨i, hi, e1, m, hm1, e2, e3⟩
      · rw [h] at hge; exact absurd hge (by decide)
      · have : m = k := by rw [hpe, vprev.1] at e2; omega
        subst this
        rw [hpe, enx] at e3
        rw [e1, jI_s]
        refine ih (j + 1) i G z (by omega) (by omega) ?_ hG hL hz hT ?_ hi (by rw [e3]; rfl)
        · rw [hF]
          show spr _ _ n (j + 1) (ins G (nxt (kC A m) r j)) = _
          rw [ins_old hi e3]
        · exact link G z i pf_rfl hD hi e3 hL.2.2.1 (by rw [e1]; exact jI_m1 (by omega)) hG
    · rw [jI_tn (by omega), r4 p hp, hpe, jL_add, enx]
      refine s_insert hW hk hL hT vnow (hm G hbG) (fun s' h => by omega) (fun i z' hi ei hT' hz' h13 => ⟨vp_n (by omega) (by decide), ex1 ⟨vp_n (by omega) (by decide), ex1 (ex1 ?_)⟩⟩) (fun hbad => ⟨vp_n (by omega) (by decide), ex1 ⟨vp_n (by omega) (by decide), ex1 (ex1 ?_)⟩⟩)
      · have hp2 := pf_ins (G := G) (x := nxt (kC A k) r j)
        have hL' := lp_ins hL vnow
        have hnd := hL'.2.2.1
        have hGs : (ins G (nxt (kC A k) r j)).2 s = r := by rw [hp2.2 s (by omega)]; exact hG
        have i1001 : i < 1001 := Nat.lt_of_lt_of_le hi hT'.1.2.2.1
        rw [show (wI z' 13 p (jI i)).1 13 p = jI i from zI_at, jI_s]
        have z13 : ∀ q, q ≠ p → (wI z' 13 p (jI i)).1 13 q = z'.1 13 q := fun q hq => zI_ne hq
        have k13 : ∀ q, q < (ins G (nxt (kC A k) r j)).1 → ¬ z'.1 13 q = -1 → ¬ (wI z' 13 p (jI i)).1 13 q = -1 := by
          intro q _ h
          by_cases c : q = p
          · subst c; rw [zI_at]; exact jI_m1 (by omega)
          · rw [z13 q c]; exact h
        obtain ⟨q1, q2, q3, q4⟩ := hT'
        refine ih (j + 1) i _ _ (by omega) (by omega) hF hGs hL' (fz_I (fz_trans hz (fz_mono hz' sn_sd)) rfl) ⟨⟨q1.1, q1.2.1, q1.2.2.1, q1.2.2.2.1, q1.2.2.2.2⟩, fun q hq => ?_, fun m s' h1 h2 h3 => dn_grow (q3 m s' h1 h2 h3) pf_rfl (hm _ (Nat.le_trans hbG hp2.1) m s' (by omega) h2 h3) rfl rfl k13, fun s' h1 h2 => dn_grow (q4 s' h1 h2) pf_rfl (by have := hp2.1; omega) rfl rfl k13⟩ ?_ hi (by rw [ei]; rfl)
        · by_cases c : q = p
          · subst c
            refine Or.inr ⟨i, hi, zI_at, k, hk, ?_, ?_⟩
            · rw [hp2.2 q hp, hpe, vprev.1]
            · rw [ei, hp2.2 q hp, hpe, enx]
          · rw [z13 q c]; exact q2 q hq
        · refine link _ _ i hp2 (dp_grow hD hp2 (by omega) (hz' 11 s rfl).1 (hz' 12 s rfl).1 (fun q hq h => ?_)) hi ei hnd (by rw [zI_at]; exact jI_m1 (by omega)) hGs
          by_cases c : q = p
          · subst c; rw [zI_at]; exact jI_m1 (by omega)
          · rw [z13 q c, h13 q hq]; exact h
      · have hF1 : 1001 < F.1 := by
          rw [hF]
          exact Nat.lt_of_lt_of_le hbad (pf_spr (c := kC A k) (r := r) (n := n) (j := j + 1) (G := ins G (nxt (kC A k) r j))).1
        have ne : ¬ (1 : Int32) = 0 := by decide
        have hb' := bad (wI (wI z 9 11 1) 13 p 0) (fz_I (fz_I hz rfl) rfl) rfl hF1
        exact ⟨vp_n (by omega) (by decide), fun _ => hb', fun _ => ⟨fun _ => hb', fun h => absurd h ne⟩⟩
theorem al28_2 {A : Ab} {k b : Nat} {zs : St} {Q : St → Prop} {F : Li} (hW : WF A) (hk : k < kN A) (hb : b = sT A (k + 1)) (oK : OK A zs) (hq8 : ∀ q, q < 12 → zs.1 23 q = jI (hI A q))
    (good : ∀ z', Fz Sd zs z' → TB A k b F z' → Q z') (bad : ∀ z', Fz Sd zs z' → z'.1 9 11 = 1 → 1001 < F.1 → Q z') :
    ∀ (n s : Nat) (G : Li) (z : St), s + n = b → sT A k ≤ s → F = lyr A k n s G → LPr A k (sT A k) b G → Fz Sd zs z → TB A k s G z → L_T_addLayer2_28 Q (n + 1) (jI k) (jI (sZ A)) (jL (16 ^ 12 + ad (kC A k))) (jI b) (jI s) z := by
  intro n
  have h16 := hW.2.1
  have hm : ∀ (G : Li), b ≤ G.1 → ∀ m s, m ≤ k → sT A m ≤ s → s < sT A (m + 1) → s < G.1 := by
    intro G hG m s h1 _ h3
    have := sT_mono hW (k := m + 1) (d := k - m) (by omega)
    rw [show m + 1 + (k - m) = k + 1 by omega, ← hb] at this
    omega
  induction n with
  | zero =>
    intro s G z hs h1 hF hL hz hT
    have hbG := hL.2.1
    have hG1 := hT.1.2.2.1
    refine ⟨fun _ => good z hz ?_, fun hn => absurd ?_ hn⟩
    · rw [hF]
      have : s = b := by omega
      subst this; exact hT
    · rw [jI_le (by omega) (by omega)]; omega
  | succ n ih =>
    intro s G z hs h1 hF hL hz hT
    obtain ⟨⟨r1, r2, r3, r4, r5⟩, m1, d1, d2⟩ := id hT
    have hbG := hL.2.1
    have hr := hL.2.2.2.2.1 s h1 (by omega)
    have oKz : OK A z := ok_fr ⟨rfl, fun _ => rfl, fun _ => rfl⟩ hz oK
    have hq8z : ∀ q, q < 12 → z.1 23 q = jI (hI A q) := fun q hq => (hz 23 q rfl).1.trans (hq8 q hq)
    have v0 := vr_nxt hW hk hr (j := 0) (Nat.zero_le _)
    have badK : ∀ z', Fz Sd zs z' → z'.1 9 11 = 1 → 1001 < F.1 → ∀ x24 : Int32, x24 = jI s + 1 → L_T_addLayer2_28 Q (n + 1) (jI k) (jI (sZ A)) (jL (16 ^ 12 + ad (kC A k))) (jI b) x24 z' :=
      fun z' h1 h2 h3 _ _ => ⟨fun _ => bad z' h1 h2 h3, fun _ => ⟨fun _ => bad z' h1 h2 h3, fun h => absurd (h.symm.trans h2) (by decide)⟩⟩
    refine ⟨fun hn => absurd hn ?_, fun _ => ⟨fun h => absurd r2 h, fun _ => ⟨vp_n (by omega) (by decide), ?_⟩⟩⟩
    · rw [jI_le (by omega) (by omega)]; omega
    rw [jI_tn (by omega), r4 s (by omega)]
    refine s_takes_2 hW hk hr oKz hq8z ⟨vp_n (by omega) (by decide), ex1 ⟨vp_n (by omega) (by decide), ?_⟩⟩
    rw [show (wI z 11 s (jI (tk A k (G.2 s)))).2 10 s = jL (G.2 s) from r4 s (by omega), show (4503599627370496 : Int64) = jL (16 ^ 13) from rfl, jL_add, ← nxt_0 (kC A k)]
    have hzw : Fz Sd zs (wI z 11 s (jI (tk A k (G.2 s)))) := fz_I hz rfl
    have dnw : ∀ m s', s' ≠ s → s' < G.1 → DN A G z m s' → DN A G (wI z 11 s (jI (tk A k (G.2 s)))) m s' := fun m s' hne hl h => dn_grow h pf_rfl hl (zI_ne hne) rfl (fun _ _ h => h)
    have hT1 : TB A k s G (wI z 11 s (jI (tk A k (G.2 s)))) := by
      refine ⟨⟨r1, r2, r3, r4, r5⟩, m1, fun m s' a1 a2 a3 => dnw m s' ?_ (hm G hbG m s' (by omega) a2 a3) (d1 m s' a1 a2 a3), fun s' a1 a2 => dnw k s' (by omega) (by omega) (d2 s' a1 a2)⟩
      have := sT_mono hW (k := m + 1) (d := k - m - 1) (by omega)
      rw [show m + 1 + (k - m - 1) = k by omega] at this
      omega
    refine s_insert hW hk hL hT1 v0 (hm G hbG) (fun s' h => by omega) (fun i z' hi ei hT' hz' h13 => ⟨vp_n (by omega) (by decide), ex1 ⟨tk A k (G.2 s) + 1, ?_⟩⟩) (fun hbad => ⟨vp_n (by omega) (by decide), ex1 ⟨1, ?_⟩⟩)
    · have hp2 := pf_ins (G := G) (x := nxt (kC A k) (G.2 s) 0)
      have hL' := lp_ins hL v0
      have hGs : (ins G (nxt (kC A k) (G.2 s) 0)).2 s = G.2 s := hp2.2 s (by omega)
      have i1001 : i < 1001 := Nat.lt_of_lt_of_le hi hT'.1.2.2.1
      obtain ⟨q1, q2, q3, q4⟩ := hT'
      have dnw2 : ∀ m s', s' ≠ s → s' < G.1 → DN A (ins G (nxt (kC A k) (G.2 s) 0)) z' m s' → DN A (ins G (nxt (kC A k) (G.2 s) 0)) (wI z' 12 s (jI i)) m s' := fun m s' hne hl h => dn_grow h pf_rfl (Nat.lt_of_lt_of_le hl hp2.1) rfl (zI_ne hne) (fun _ _ h => h)
      have e11 : z'.1 11 s = jI (tk A k (G.2 s)) := (hz' 11 s rfl).1.trans zI_at
      refine al92_2 (zs := zs) (F := spr (kC A k) (G.2 s) (tk A k (G.2 s) + 1) 0 G) hW hk h1 (by omega) hb hr (fun z2 hz2 hT2 => ex1 ?_) (fun z2 hz2 h0 h3 => badK z2 hz2 h0 ?_) (tk A k (G.2 s)) 1 i _ _ (by omega) (Nat.le_refl _) rfl hGs hL' (fz_I (fz_trans hzw (fz_mono hz' sn_sd)) rfl) ⟨⟨q1.1, q1.2.1, q1.2.2.1, q1.2.2.2.1, q1.2.2.2.2⟩, q2, fun m s' a1 a2 a3 => dnw2 m s' ?_ (hm G hbG m s' (by omega) a2 a3) (q3 m s' a1 a2 a3), fun s' a1 a2 => dnw2 k s' (by omega) (by omega) (q4 s' a1 a2)⟩ ⟨?_, fun j hj => ?_⟩ hi ei
      · rw [jI_s]
        exact ih (s + 1) _ z2 (by omega) (by omega) hF (lp_spr (s := s) hW hk hr hL (by omega)) hz2 hT2
      · rw [hF]
        exact Nat.lt_of_lt_of_le h3 (pf_lyr (A := A) (k := k) (n := n) (s := s + 1) (G := spr (kC A k) (G.2 s) (tk A k (G.2 s) + 1) 0 G)).1
      · have := sT_mono hW (k := m + 1) (d := k - m - 1) (by omega)
        rw [show m + 1 + (k - m - 1) = k by omega] at this
        omega
      · rw [hGs]; exact e11
      · have : j = 0 := by omega
        subst this
        exact ⟨i, hi, by rw [hGs]; exact ei, fun _ => zI_at, fun h => by omega⟩
    · have hF1 : 1001 < F.1 := by
        rw [hF]
        exact Nat.lt_of_lt_of_le (Nat.lt_of_lt_of_le hbad (pf_spr (c := kC A k) (r := G.2 s) (n := tk A k (G.2 s)) (j := 1) (G := ins G (nxt (kC A k) (G.2 s) 0))).1) (pf_lyr (A := A) (k := k) (n := n) (s := s + 1) (G := spr (kC A k) (G.2 s) (tk A k (G.2 s) + 1) 0 G)).1
      have ne : ¬ (1 : Int32) = 0 := by decide
      have hb' := badK (wI (wI (wI z 11 s (jI (tk A k (G.2 s)))) 9 11 1) 12 s 0) (fz_I (fz_I hzw rfl) rfl) rfl hF1
      exact ⟨vp_n (by omega) (by decide), fun _ => hb', fun _ => ⟨fun _ => hb', fun h => absurd h ne⟩⟩
theorem s_addLayer_2 {A : Ab} {k : Nat} {z : St} {Q : St → Prop} (hW : WF A) (hk : k < kN A) (oK : OK A z) (hq8 : ∀ q, q < 12 → z.1 23 q = jI (hI A q)) (h17 : z.1 17 k = jI (sT A k)) (hT : TB A k (sT A k) (pr A k).1 z)
    (good : ∀ z', Fz Sd z z' → TB A k (sT A (k + 1)) (pr A (k + 1)).1 z' → Q z') (bad : ∀ z', Fz Sd z z' → z'.1 9 11 = 1 → 1001 < (pr A (k + 1)).1.1 → Q z') : P_T_addLayer2 (jI k) (jI (sZ A)) z Q := by
  have h16 := hW.2.1
  have hK := hW.2.2.1.2.1 k hk
  have hlv := pr_lv hW (k := k) (by omega)
  have hle : sT A k ≤ (pr A k).1.1 := hlv.1
  unfold P_T_addLayer2
  rw [jI_tn (by omega), oK.2.1 k hk]
  refine ⟨vp_n (by omega) (by decide), s_oneMore hK.1 (ex1 ⟨vp_n (by omega) (by decide), ex1 ?_⟩)⟩
  rw [h17, hT.1.1]
  refine ⟨_, al28_2 (b := (pr A k).1.1) hW hk rfl oK hq8 good bad ((pr A k).1.1 - (pr A k).2) (sT A k) (pr A k).1 z (show (pr A k).2 + ((pr A k).1.1 - (pr A k).2) = (pr A k).1.1 from Nat.add_sub_cancel' hle) (Nat.le_refl _) rfl (lv_lp hlv) fz_rfl hT⟩
theorem s_build31_2 {A : Ab} {zs : St} {K : Int32 → St → Prop} {Q : St → Prop} (hW : WF A) (oK : OK A zs) (hq8 : ∀ q, q < 12 → zs.1 23 q = jI (hI A q))
    (good : ∀ z', Fz Su zs z' → EN A z' → z'.1 9 12 = zs.1 9 12 → K (jI (sZ A)) z') (bad : ∀ z', Fz Su zs z' → z'.1 9 11 = 1 → 1001 < (GN A).1 → z'.1 17 0 = 0 → K (jI (sZ A)) z') :
    ∀ (d k : Nat) (z : St), k + d = kN A → Fz Su zs z → z.1 9 12 = zs.1 9 12 → (∀ m, m ≤ k → z.1 17 m = jI (sT A m)) → TB A k (sT A k) (pr A k).1 z → L_T_build2_31 K Q (d + 1) (jI (sZ A)) (jI k) z := by
  intro d
  have h16 := hW.2.1
  induction d with
  | zero =>
    intro k z hk hz h12 h17 hT
    have hk' : k = kN A := by omega
    subst hk'
    have e5 : z.1 1 5 = jI (kN A) := (hz 1 5 rfl).1.trans oK.1
    refine ⟨fun _ => good z hz ⟨hT.1.1, hT.1.2.1, hT.1.2.2.1, h17, hT.1.2.2.2.1, tb_lk hW hT⟩ h12, fun hn => absurd ?_ hn⟩
    rw [e5]; exact Int32.le_refl _
  | succ d ih =>
    intro k z hk hz h12 h17 hT
    have oKz : OK A z := ok_fr ⟨rfl, fun _ => rfl, fun _ => rfl⟩ hz oK
    have hq8z : ∀ q, q < 12 → z.1 23 q = jI (hI A q) := fun q hq => (hz 23 q rfl).1.trans (hq8 q hq)
    refine ⟨fun hn => absurd hn ?_, fun _ => ⟨fun h => absurd hT.1.2.1 h, fun _ => ?_⟩⟩
    · rw [oKz.1, jI_le (by omega) (by omega)]; omega
    rw [show (1 : Int32) = jI 1 from rfl, jI_add, jI_tn (by omega)]
    refine ⟨vp_n (by omega) (by decide), ex1 ?_⟩
    have hzw : Fz Su zs (wI z 17 (k + 1) (z.1 9 10)) := fz_I hz rfl
    have h17w : ∀ m, m ≤ k + 1 → (wI z 17 (k + 1) (z.1 9 10)).1 17 m = jI (sT A m) := by
      intro m hm
      by_cases e : m = k + 1
      · subst e; rw [zI_at, hT.1.1]; rfl
      · rw [zI_ne e]; exact h17 m (by omega)
    refine s_addLayer_2 hW (by omega) oKz hq8z (h17w k (by omega)) hT (fun z' hz' hT' => ex1 ?_) (fun z' hz' h0 h1 => ex1 ?_)
    · refine ih (k + 1) z' (by omega) (fz_trans hzw (fz_mono hz' sd_su)) ((hz' 9 12 rfl).1.trans h12) (fun m hm => (hz' 17 m rfl).1.trans (h17w m hm)) ⟨hT'.1, hT'.2.1, fun m s a1 a2 a3 => ?_, fun s a1 a2 => absurd a2 (by omega)⟩
      by_cases e : m = k
      · subst e; exact hT'.2.2.2 s a2 a3
      · exact hT'.2.2.1 m s (by omega) a2 a3
    · have hb := bad z' (fz_trans hzw (fz_mono hz' sd_su)) h0 (Nat.lt_of_lt_of_le h1 (gn_pf (A := A) (k := k + 1) (by omega)).1) ((hz' 17 0 rfl).1.trans (h17w 0 (by omega)))
      exact ⟨fun _ => hb, fun _ => ⟨fun _ => hb, fun h => absurd (h.symm.trans h0) (by decide)⟩⟩
theorem s_isPanel_2 {A : Ab} {r : Nat} {z : St} {Q : Int32 → St → Prop} (hW : WF A) (hr : r < 9223372036854775808) (hs : hd r 12 ≤ 8) (oV : OV A z) (hq7 : ∀ q, q < 12 → z.1 22 q = jI (lO A q)) (h : Q (bI (panB A r 12)) z) : P_T_isPanel2 (jL r) (jI (sZ A)) z Q := by
  have i8 := hW.2.2.2.2.2.2.2
  have inner : ∀ (K : Int64 → Int32 → Int32 → St → Prop) (t : Nat), t < 3 → K (jL r) (bI (panB A r (4 * t + 4))) (jI t) z → ∀ (d v : Nat), v + d = vS A t → L_T_isPanel2_30 K Q (d + 1) (jL r) (bI (panB A r (4 * t + v))) (jI t) (jI v) z := by
    intro K t ht hK d
    have h4 := (hW.2.2.2.2.1 t ht).2
    induction d with
    | zero =>
      intro v hv
      refine ⟨vp_n ht (by decide), fun _ => ?_, fun hn => absurd ?_ hn⟩
      · have := panB_skip (A := A) (r := r) (t := t) (v := v) (by omega) (d := 4 - v) (by omega)
        rw [show 4 * t + v + (4 - v) = 4 * t + 4 by omega] at this
        rw [← this]; exact hK
      · rw [jI_tn (by omega), oV t ht, jI_le (by omega) (by omega)]; omega
    | succ d ih =>
      intro v hv
      have e4 : jI t * 4 + jI v = jI (4 * t + v) := by rw [show (4 : Int32) = jI 4 from rfl, jI_mul, jI_add, Nat.mul_comm]
      have ihv := ih (v + 1) (by omega)
      rw [panB_s (by omega) (by omega)] at ihv
      refine ⟨vp_n ht (by decide), fun hn => absurd hn ?_, fun _ => ?_⟩
      · rw [jI_tn (by omega), oV t ht, jI_le (by omega) (by omega)]; omega
      unfold P_O_quotaOf
      rw [e4]
      cases hb : panB A r (4 * t + v) with
      | false =>
        rw [hb, Bool.false_and] at ihv
        refine ⟨fun _ => ex1 ?_, fun h => absurd rfl h⟩
        rw [jI_s]; exact ihv
      | true =>
        rw [hb, Bool.true_and] at ihv
        refine ⟨fun h => absurd h (by decide), fun _ => s_field hr (by omega) ?_⟩
        have hl := (hW.2.2.2.2.2.1 (4 * t + v) (by omega))
        have hlt := hd_lt r (4 * t + v)
        rw [jI_tn (by omega), hq7 _ (by omega), jI_lt (by omega) (by omega)]
        refine ⟨vp_n (by omega) (by decide), fun h => ex1 ?_, fun h => ex1 ?_⟩
        · rw [decide_eq_false (by omega)] at ihv
          rw [jI_s]; exact ihv
        · rw [decide_eq_true (by omega)] at ihv
          rw [jI_s]; exact ihv
  have outer : ∀ b : Bool, b = panB A r 0 → ∃ k, L_T_isPanel2_21 Q k (jL r) (bI b) 0 z := by
    intro b hb
    subst hb
    have i := fun K t ht hK => inner K t ht hK (vS A t) 0 (by omega)
    refine ⟨4, fun e => absurd e (by decide), fun _ => ⟨_, i _ 0 (by decide) (ex1 ?_)⟩⟩
    refine ⟨fun e => absurd e (by decide), fun _ => ⟨_, i _ 1 (by decide) (ex1 ?_)⟩⟩
    refine ⟨fun e => absurd e (by decide), fun _ => ⟨_, i _ 2 (by decide) (ex1 ?_)⟩⟩
    exact ⟨fun _ => ⟨bI_zb _, h⟩, fun e => absurd (by decide) e⟩
  unfold P_T_isPanel2
  refine s_field (q := 12) hr (by decide) ?_
  rw [jI_eq (by omega) (by omega)]
  refine ⟨fun hne => ?_, fun he => ?_⟩
  · exact outer false (decide_eq_false hne).symm
  · exact outer true (decide_eq_true he).symm
theorem s_ca75_2 {A : Ab} {k : Nat} {zs : St} {K : Int32 → St → Prop} {Q : St → Prop} (hW : WF A) (hk : k < kN A) (oK : OK A zs) (hE : EN A zs) (hP : Pas (zs.1 18))
    (hK : ∀ z', Fz S14 zs z' → AH A k z' → K (jI k) z') : ∀ (d s : Nat) (z : St), s + d = sT A (k + 1) → sT A k ≤ s → Fz S14 zs z → AH A (k + 1) z → (∀ i, sT A k ≤ i → i < s → z.2 14 i = jL (wy A (kN A - k) ((GN A).2 i))) → L_T_countAhead2_75 K Q (d + 1) (jI k) (jI s) z := by
  intro d
  have h16 := hW.2.1
  have hlen := hE.2.2.1
  have hs1 := sT_len (A := A) (k := k) (by omega)
  induction d with
  | zero =>
    intro s z hs h1 hz hA hd
    have h17 := (en_fr hz hE).2.2.2.1 (k + 1) (by omega)
    unfold L_T_countAhead2_75
    rw [show (1 : Int32) = jI 1 from rfl, jI_add, jI_tn (by omega), h17, jI_le (by omega) (by omega)]
    refine ⟨vp_n (by omega) (by decide), fun _ => hK z hz (fun m i a1 a2 a3 a4 => ?_), fun hn => absurd (by omega) hn⟩
    by_cases e : m = k
    · subst e; exact hd i a3 (by omega)
    · exact hA m i (by omega) a2 a3 a4
  | succ d ih =>
    intro s z hs h1 hz hA hd
    have hEz := en_fr hz hE
    have h17 := hEz.2.2.2.1 (k + 1) (by omega)
    have oKz : OK A z := ok_fr ⟨rfl, fun _ => rfl, fun _ => rfl⟩ hz oK
    have hPz : Pas (z.1 18) := by
      intro n k hn hk
      rw [(hz 18 _ rfl).1]; exact hP n k hn hk
    unfold L_T_countAhead2_75
    rw [show (1 : Int32) = jI 1 from rfl, jI_add, jI_tn (by omega), h17, jI_le (by omega) (by omega)]
    refine ⟨vp_n (by omega) (by decide), fun hn => absurd hn (by omega), fun _ => ⟨vp_n (by omega) (by decide), ?_⟩⟩
    rw [jI_tn (by omega), oKz.2.2 k hk]
    refine s_ahead hW hk h1 (by omega) hEz hPz hA ⟨vp_n (by omega) (by decide), ex1 (ex1 ?_)⟩
    rw [jI_tn (by omega), jI_add]
    refine ih (s + 1) _ (by omega) (by omega) (fz_L hz rfl) (fun m i a1 a2 a3 a4 => ?_) (fun i a1 a2 => ?_)
    · have hmo := sT_mono hW (k := k + 1) (d := m - (k + 1)) (by omega)
      rw [show k + 1 + (m - (k + 1)) = m by omega] at hmo
      rw [zL_ne (by omega)]; exact hA m i a1 a2 a3 a4
    · by_cases e : i = s
      · subst e; exact zL_at
      · rw [zL_ne e]; exact hd i a1 (by omega)
theorem s_ca63_2 {A : Ab} {zs : St} {Q : St → Prop} (hW : WF A) (oK : OK A zs) (hE : EN A zs) (hP : Pas (zs.1 18)) (hQ : ∀ z', Fz S14 zs z' → AH A 0 z' → Q z') :
    ∀ (k : Nat) (z : St), k ≤ kN A → Fz S14 zs z → AH A k z → L_T_countAhead2_63 Q (k + 1) (jI k - 1) z := by
  intro k
  have h16 := hW.2.1
  have hlen := hE.2.2.1
  induction k with
  | zero =>
    intro z _ hz hA
    exact ⟨fun _ => hQ z hz hA, fun hn => absurd (by decide) hn⟩
  | succ k ih =>
    intro z hk hz hA
    have h17 := (en_fr hz hE).2.2.2.1 k (by omega)
    have oKz : OK A z := ok_fr ⟨rfl, fun _ => rfl, fun _ => rfl⟩ hz oK
    have hPz : Pas (z.1 18) := by
      intro n k hn hk
      rw [(hz 18 _ rfl).1]; exact hP n k hn hk
    have hle := sT_le hW (k := k) (by omega)
    rw [jI_p (by omega), show k + 1 - 1 = k by omega]
    refine ⟨fun hn => absurd hn (jI_nn (by omega)), fun _ => ⟨vp_n (by omega) (by decide), ex1 ?_⟩⟩
    rw [jI_tn (by omega), h17]
    refine ⟨_, s_ca75_2 (zs := z) hW (by omega) oKz (en_fr hz hE) hPz (fun z' hz' hA' => ex1 (p := fun y => L_T_countAhead2_63 Q (k + 1) y z') (ih z' (by omega) (fz_trans hz hz') hA')) (sT A (k + 1) - sT A k) (sT A k) z (by omega) (Nat.le_refl _) fz_rfl hA (fun i a1 a2 => absurd a2 (by omega))⟩
theorem s_countAhead_2 {A : Ab} {z : St} {Q : St → Prop} (hW : WF A) (oK : OK A z) (oV : OV A z) (hq7 : ∀ q, q < 12 → z.1 22 q = jI (lO A q)) (hE : EN A z) (hP : Pas (z.1 18)) (hQ : ∀ z', Fz S14 z z' → AH A 0 z' → Q z') : P_T_countAhead2 (jI (sZ A)) z Q := by
  have h16 := hW.2.1
  have hlen := hE.2.2.1
  have hs0 := sT_le hW (k := kN A) (Nat.le_refl _)
  have hgn := gn_len A
  have loop : ∀ (K : St → Prop), (∀ z', Fz S14 z z' → AH A (kN A) z' → K z') → ∀ (d i : Nat) (z' : St), i + d = (GN A).1 → sT A (kN A) ≤ i → Fz S14 z z' → (∀ i', sT A (kN A) ≤ i' → i' < i → z'.2 14 i' = jL (wy A 0 ((GN A).2 i'))) → L_T_countAhead2_13 K Q (d + 1) (jI (sZ A)) (jI i) z' := by
    intro K hK d
    induction d with
    | zero =>
      intro i z' hi h1 hz hd
      have e9 := (en_fr hz hE).1
      refine ⟨fun _ => hK z' hz (fun m i' a1 a2 a3 a4 => ?_), fun hn => absurd ?_ hn⟩
      · have : m = kN A := by omega
        subst this
        rw [Nat.sub_self]
        exact hd i' a3 (by omega)
      · rw [e9, jI_le (by omega) (by omega)]; omega
    | succ d ih =>
      intro i z' hi h1 hz hd
      obtain ⟨e9, e11, _, e17, e10, hL⟩ := en_fr hz hE
      have hv := gn_vr hW (Nat.le_refl _) h1 (by omega)
      have hr := Nat.lt_of_lt_of_le (vr_lt h16 hv) (by decide : 17 * 16 ^ 13 ≤ 9223372036854775808)
      have h8 := vr_le8 hW hv (q := 12) (by decide)
      have upd : ∀ x : Int64, x = jL (wy A 0 ((GN A).2 i)) → L_T_countAhead2_13 K Q (d + 1) (jI (sZ A)) (jI (i + 1)) (wL z' 14 i x) := by
        intro x hx
        refine ih (i + 1) _ (by omega) (by omega) (fz_L hz rfl) (fun i' a1 a2 => ?_)
        by_cases e : i' = i
        · subst e; rw [zL_at]; exact hx
        · rw [zL_ne e]; exact hd i' a1 (by omega)
      refine ⟨fun hn => absurd hn ?_, fun _ => ⟨vp_n (by omega) (by decide), ?_⟩⟩
      · rw [e9, jI_le (by omega) (by omega)]; omega
      rw [jI_tn (by omega), e10 i (by omega)]
      refine s_isPanel_2 hW hr h8 (ov_fr (fun _ => rfl) hz oV) (fun q hq => (hz 22 q rfl).1.trans (hq7 q hq)) ⟨fun h0 => ⟨vp_n (by omega) (by decide), ex1 (ex1 ?_)⟩, fun h1 => ⟨vp_n (by omega) (by decide), ex1 (ex1 ?_)⟩⟩
      · rw [jI_s]
        refine upd 0 ?_
        cases hb : panB A ((GN A).2 i) 12 with
        | true => rw [hb] at h0; exact absurd h0 (by decide)
        | false => unfold wy; rw [hb]; rfl
      · rw [jI_s]
        refine upd 1 ?_
        cases hb : panB A ((GN A).2 i) 12 with
        | true => unfold wy; rw [hb]; rfl
        | false => rw [hb] at h1; exact absurd rfl h1
  unfold P_T_countAhead2
  rw [oK.1, jI_tn (by omega), hE.2.2.2.1 (kN A) (Nat.le_refl _)]
  refine ⟨vp_n (by omega) (by decide), ex1 ⟨_, loop _ (fun z' hz hA => ?_) ((GN A).1 - sT A (kN A)) (sT A (kN A)) z (by omega) (Nat.le_refl _) fz_rfl (fun i' a1 a2 => absurd a2 (by omega))⟩⟩
  have oKz : OK A z' := ok_fr ⟨rfl, fun _ => rfl, fun _ => rfl⟩ hz oK
  have hPz : Pas (z'.1 18) := by
    intro n k hn hk
    rw [(hz 18 _ rfl).1]; exact hP n k hn hk
  rw [oKz.1]
  exact ex1 ⟨_, s_ca63_2 (zs := z') hW oKz (en_fr hz hE) hPz (fun z'' hz' hA' => hQ z'' (fz_trans hz hz') hA') (kN A) z' (Nat.le_refl _) fz_rfl hA⟩
theorem s_build_2 {A : Ab} {z : St} {Q : St → Prop} (hW : WF A) (oK : OK A z) (oV : OV A z) (hq7 : ∀ q, q < 12 → z.1 22 q = jI (lO A q)) (hq8 : ∀ q, q < 12 → z.1 23 q = jI (hI A q)) (hP : Pas (z.1 18)) (h17 : z.1 17 0 = 0)
    (hQ : ∀ z', Fz Su z z' → TOK A z' → z'.1 17 0 = 0 → z'.1 9 12 = 0 ∨ z'.1 9 11 = 1 → Q z') : P_T_build2 (jI (sZ A)) z Q := by
  refine s_fill (fun z1 hF1 h1 => ex1 (ex1 (ex1 ?_)))
  generalize hz4 : wI (wI (wI z1 9 10 0) 9 11 0) 9 12 0 = z4
  have hF4 : Fz Su z z4 := by rw [← hz4]; exact fz_I (fz_I (fz_I (fz_mono hF1 s16_su) rfl) rfl) rfl
  have e16 : ∀ i, i < 2048 → z4.1 16 i = -1 := by rw [← hz4]; exact h1
  have e10 : z4.1 9 10 = jI 0 := by rw [← hz4]; rfl
  have e11 : z4.1 9 11 = 0 := by rw [← hz4]; rfl
  have e12 : z4.1 9 12 = 0 := by rw [← hz4]; rfl
  refine s_stateOf (G := (0, fun _ => 0)) (x := 0) (by decide) (by decide) (fun i hi => absurd hi (Nat.not_lt_zero i)) e10 (fun i hi => absurd hi (Nat.not_lt_zero i)) (ht_empty e16) (fun i hi => absurd hi (Nat.not_lt_zero i)) (fun _ _ z5 hF5 t1 t2 t3 t4 t5 => ?_) (fun _ he => absurd he (by decide))
  have hF : Fz Su z z5 := fz_trans hF4 (fz_mono hF5 sn_su)
  have eG : (0 + 1, fup (fun _ => 0) 0 0) = (pr A 0).1 := by
    show ((1 : Nat), fup (fun _ => 0) 0 0) = (1, fun _ => 0)
    rw [show fup (fun _ => 0) 0 0 = fun _ => 0 from funext (fun p => by unfold fup; split <;> rfl)]
  have oK5 : OK A z5 := ok_fr ⟨rfl, fun _ => rfl, fun _ => rfl⟩ hF oK
  have hq85 : ∀ q, q < 12 → z5.1 23 q = jI (hI A q) := fun q hq => (hF 23 q rfl).1.trans (hq8 q hq)
  have e1712 : z5.1 17 0 = 0 := by
    rw [(hF5 17 0 rfl).1, ← hz4]
    show z1.1 17 0 = 0
    rw [(hF1 17 0 rfl).1]; exact h17
  have hT : TB A 0 (sT A 0) (pr A 0).1 z5 := by
    rw [← eG]
    refine ⟨⟨t2, (hF5 9 11 rfl).1.trans e11, by decide, t3, t1⟩, fun p hp => ?_, fun m s hm => absurd hm (Nat.not_lt_zero m), fun s _ hs => absurd hs (Nat.not_lt_zero s)⟩
    have : p = 0 := by
      have hp' : p < 1 := hp
      omega
    subst this
    exact Or.inl t5
  refine ⟨_, s_build31_2 (zs := z5) hW oK5 hq85 (fun z6 hF6 hE h12 => ?_) (fun z6 hF6 h1 hlt h170 => ?_) (kN A) 0 z5 (by omega) fz_rfl rfl (fun m hm => ?_) hT⟩
  · have hF' := fz_trans hF hF6
    refine ⟨fun h => absurd hE.2.1 h, fun _ => ?_⟩
    refine s_countAhead_2 hW (ok_fr ⟨rfl, fun _ => rfl, fun _ => rfl⟩ hF' oK) (ov_fr (fun _ => rfl) hF' oV) (fun q hq => (hF' 22 q rfl).1.trans (hq7 q hq)) hE (pas_fr (fun _ => rfl) hF' hP) (fun z7 hF7 hA => ?_)
    have hE7 := en_fr hF7 hE
    refine hQ z7 (fz_trans hF' (fz_mono hF7 s14_su)) (Or.inr ⟨hE7.2.1, hE7.2.2.1, hE7, hA⟩) (hE7.2.2.2.1 0 (Nat.zero_le _)) (Or.inl ?_)
    rw [(hF7 9 12 rfl).1, h12, (hF5 9 12 rfl).1]; exact e12
  · have hF' := fz_trans hF hF6
    have hq := hQ z6 hF' (Or.inl ⟨h1, hlt⟩) h170 (Or.inr h1)
    exact ⟨fun _ => hq, fun h => absurd (h.symm.trans h1) (by decide)⟩
  · have : m = 0 := by omega
    subst this; exact e1712
