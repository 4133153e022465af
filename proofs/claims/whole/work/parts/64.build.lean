/-! The pure side: the tally is built, layer by layer. -/
def RW (G : Li) (z : St) : Prop := z.1 9 10 = jI G.1 ∧ z.1 9 11 = 0 ∧ G.1 ≤ 1001 ∧ (∀ i, i < G.1 → z.2 10 i = jL (G.2 i)) ∧ HT G z
def MO (A : Ab) (G : Li) (z : St) : Prop := ∀ p, p < G.1 → z.1 13 p = -1 ∨ ∃ i, i < G.1 ∧ z.1 13 p = jI i ∧ ∃ m, m < kN A ∧ G.2 p / 16 ^ 13 = m + 1 ∧ G.2 i = G.2 p + (16 ^ 12 + ad (kC A m))
/-- of state s of layer m the first J of the states that it leads to are entered and linked -/
def DP (A : Ab) (G : Li) (z : St) (m s J : Nat) : Prop := z.1 11 s = jI (tk A m (G.2 s)) ∧ ∀ j, j < J → ∃ i, i < G.1 ∧ G.2 i = nxt (kC A m) (G.2 s) j ∧ (j = 0 → z.1 12 s = jI i) ∧ (j + 1 < J → ¬ z.1 13 i = -1)
def DN (A : Ab) (G : Li) (z : St) (m s : Nat) : Prop := DP A G z m s (tk A m (G.2 s) + 1)
def TB (A : Ab) (k s0 : Nat) (G : Li) (z : St) : Prop := RW G z ∧ MO A G z ∧ (∀ m s, m < k → sT A m ≤ s → s < sT A (m + 1) → DN A G z m s) ∧ ∀ s, sT A k ≤ s → s < s0 → DN A G z k s
theorem dp_grow {A : Ab} {G G' : Li} {z z' : St} {m s J : Nat} (h : DP A G z m s J) (hp : Pf G G') (hs : s < G.1) (h11 : z'.1 11 s = z.1 11 s) (h12 : z'.1 12 s = z.1 12 s) (h13 : ∀ i, i < G.1 → ¬ z.1 13 i = -1 → ¬ z'.1 13 i = -1) : DP A G' z' m s J := by
  have e := hp.2 s hs
  refine ⟨by rw [h11, e]; exact h.1, fun j hj => ?_⟩
  obtain ⟨i, hi, e1, e2, e3⟩ := h.2 j hj
  refine ⟨i, Nat.lt_of_lt_of_le hi hp.1, by rw [hp.2 i hi, e]; exact e1, fun h0 => h12.trans (e2 h0), fun h1 => h13 i hi (e3 h1)⟩
theorem dn_grow {A : Ab} {G G' : Li} {z z' : St} {m s : Nat} (h : DN A G z m s) (hp : Pf G G') (hs : s < G.1) (h11 : z'.1 11 s = z.1 11 s) (h12 : z'.1 12 s = z.1 12 s) (h13 : ∀ i, i < G.1 → ¬ z.1 13 i = -1 → ¬ z'.1 13 i = -1) : DN A G' z' m s := by
  have e := hp.2 s hs
  show DP A G' z' m s (tk A m (G'.2 s) + 1)
  rw [e]
  exact dp_grow h hp hs h11 h12 h13
theorem mo_new {A : Ab} {G : Li} {z z' : St} {x : Nat} (h : MO A G z) (h13 : ∀ i, i ≠ G.1 → z'.1 13 i = z.1 13 i) (hn : z'.1 13 G.1 = -1) : MO A (G.1 + 1, fup G.2 G.1 x) z' := by
  intro p hp
  have hp' : p < G.1 + 1 := hp
  by_cases e : p = G.1
  · subst e; exact Or.inl hn
  · rw [h13 p e]
    rcases h p (by omega) with h | ⟨i, hi, e1, m, hm, e2, e3⟩
    · exact Or.inl h
    · refine Or.inr ⟨i, Nat.lt_succ_of_lt hi, e1, m, hm, ?_, ?_⟩
      · show fup G.2 G.1 x p / 16 ^ 13 = m + 1
        rw [fup_ne e]; exact e2
      · show fup G.2 G.1 x i = fup G.2 G.1 x p + _
        rw [fup_ne e, fup_ne (by omega)]; exact e3
theorem lp_lt {A : Ab} {k a b : Nat} {G : Li} (hW : WF A) (hk : k < kN A) (h : LPr A k a b G) : ∀ i, i < G.1 → G.2 i < 9223372036854775808 := by
  intro i hi
  have h16 := hW.2.1
  have : ∃ m, m ≤ 16 ∧ VR A m (G.2 i) := by
    by_cases e1 : i < a
    · obtain ⟨m, hm, hv⟩ := h.2.2.2.1 i e1
      exact ⟨m, by omega, hv⟩
    · by_cases e2 : i < b
      · exact ⟨k, by omega, h.2.2.2.2.1 i (by omega) e2⟩
      · exact ⟨k + 1, by omega, h.2.2.2.2.2 i (by omega) hi⟩
  obtain ⟨m, hm, hv⟩ := this
  exact Nat.lt_of_lt_of_le (vr_lt hm hv) (by decide)
/-- a state is looked up, and entered if it was not there -/
theorem s_insert {A : Ab} {k a b s0 x : Nat} {G : Li} {z : St} {Q : Int32 → St → Prop} (hW : WF A) (hk : k < kN A) (hL : LPr A k a b G) (hT : TB A k s0 G z) (hx : VR A (k + 1) x) (hm : ∀ m s, m ≤ k → sT A m ≤ s → s < sT A (m + 1) → s < G.1) (hs0 : ∀ s, s < s0 → s < G.1)
    (ok : ∀ i z', i < (ins G x).1 → (ins G x).2 i = x → TB A k s0 (ins G x) z' → Fz Sn z z' → (∀ p, p < G.1 → z'.1 13 p = z.1 13 p) → Q (jI i) z')
    (bad : 1001 < (ins G x).1 → Q 0 (wI z 9 11 1)) : P_T_stateOf (jL x) z Q := by
  obtain ⟨⟨r1, r2, r3, r4, r5⟩, m1, d1, d2⟩ := id hT
  have h16 := hW.2.1
  refine s_stateOf r3 (Nat.lt_of_lt_of_le (vr_lt (by omega) hx) (by decide)) (lp_lt hW hk hL) r1 r4 r5 (fun i hi e => ?_) (fun hno hlt z' hF t1 t2 t3 t4 t5 => ?_) (fun hno he => ?_)
  · have e' := ins_old hi e
    refine ok i z (by rw [e']; exact hi) (by rw [e']; exact e) (by rw [e']; exact hT) fz_rfl (fun _ _ => rfl)
  · have e' := ins_new hno
    have hp : Pf G (G.1 + 1, fup G.2 G.1 x) := by rw [← e']; exact pf_ins
    have k13 : ∀ i, i < G.1 → ¬ z.1 13 i = -1 → ¬ z'.1 13 i = -1 := fun i hi h => by rw [t4 i (by omega)]; exact h
    refine ok G.1 z' (by rw [e']; exact Nat.lt_succ_self _) (by rw [e']; exact fup_at) ?_ hF (fun p hp => t4 p (by omega))
    rw [e']
    exact ⟨⟨t2, (hF 9 11 rfl).1.trans r2, hlt, t3, t1⟩, mo_new m1 t4 t5, fun m s h1 h2 h3 => dn_grow (d1 m s h1 h2 h3) hp (hm m s (by omega) h2 h3) (hF 11 s rfl).1 (hF 12 s rfl).1 k13, fun s h1 h2 => dn_grow (d2 s h1 h2) hp (hs0 s h2) (hF 11 s rfl).1 (hF 12 s rfl).1 k13⟩
  · refine bad ?_
    rw [ins_new hno]
    show 1001 < G.1 + 1
    omega
abbrev Sd : Nat → Nat → Bool := fun c k => c == 10 || (c == 11 || (c == 12 || (c == 13 || (c == 16 || (c == 9 && (k == 10 || k == 11))))))
theorem sn_sd (c k : Nat) (e : Sd c k = false) : Sn c k = false := by
  simp only [Bool.or_eq_false_iff, Bool.and_eq_false_iff] at e ⊢
  exact ⟨e.1, e.2.2.2.1, e.2.2.2.2.1, e.2.2.2.2.2.imp id (fun h => h.1)⟩
theorem j13 {z : St} {i : Nat} (h : i < 2147483648) {p : Nat} (e : z.1 13 p = jI i) : 0 ≤ z.1 13 p := by rw [e]; exact jI_0le h
theorem al92 {A : Ab} {k s b r : Nat} {zs : St} {K : Int32 → Int32 → Int64 → Int32 → Int32 → St → Prop} {Q : St → Prop} {F : Li} (hW : WF A) (hk : k < kN A) (hs : sT A k ≤ s) (hsb : s < b) (hb : b = sT A (k + 1)) (hr : VR A k r)
    (good : ∀ z', Fz Sd zs z' → TB A k (s + 1) F z' → K (jI k) (jI (sZ A)) (jL (16 ^ 12 + ad (kC A k))) (jI b) (jI s) z')
    (bad : ∀ z', Fz Sd zs z' → z'.1 9 11 = 1 → 1001 < F.1 → K (jI k) (jI (sZ A)) (jL (16 ^ 12 + ad (kC A k))) (jI b) (jI s) z') :
    ∀ (n j p : Nat) (G : Li) (z : St), j + n = tk A k r + 1 → 1 ≤ j → F = spr (kC A k) r n j G → G.2 s = r → LPr A k (sT A k) b G → Fz Sd zs z → TB A k s G z → DP A G z k s j → p < G.1 → G.2 p = nxt (kC A k) r (j - 1) → L_T_addLayer_92 K Q (n + 1) (jI k) (jI (sZ A)) (jL (16 ^ 12 + ad (kC A k))) (jI b) (jI s) (jI p) (jI j) z := by
  intro n
  have t8 : tk A k r ≤ 8 := by
    have := (tk_le.mp (Nat.le_refl (tk A k r))).2.1
    have := hW.2.2.2.2.2.2.2
    omega
  have hm : ∀ (G : Li), b ≤ G.1 → ∀ m s, m ≤ k → sT A m ≤ s → s < sT A (m + 1) → s < G.1 := by
    intro G hG m s h1 _ h3
    have := sT_mono hW (k := m + 1) (d := k - m) (by omega)
    rw [show m + 1 + (k - m) = k + 1 by omega, ← hb] at this
    omega
  induction n with
  | zero =>
    intro j p G z hj h1 hF hG hL hz hT hD hp hpe
    obtain ⟨⟨r1, r2, r3, r4, r5⟩, m1, d1, d2⟩ := id hT
    have hbG := hL.2.1
    refine ⟨vp_n (by omega) (by decide), fun _ => good z hz ?_, fun hn => absurd ?_ hn⟩
    · rw [hF]
      refine ⟨⟨r1, r2, r3, r4, r5⟩, m1, d1, fun s' h2 h3 => ?_⟩
      by_cases e : s' = s
      · subst e
        show DP A G z k s' (tk A k (G.2 s') + 1)
        rw [hG, ← hj]
        exact hD
      · exact d2 s' h2 (by omega)
    · rw [jI_tn (by omega), hD.1, hG, jI_lt (by omega) (by omega)]; omega
  | succ n ih =>
    intro j p G z hj h1 hF hG hL hz hT hD hp hpe
    obtain ⟨⟨r1, r2, r3, r4, r5⟩, m1, d1, d2⟩ := id hT
    have hbG := hL.2.1
    have vprev := vr_nxt hW hk hr (j := j - 1) (by omega)
    have vnow := vr_nxt hW hk hr (j := j) (by omega)
    have enx : nxt (kC A k) r (j - 1) + (16 ^ 12 + ad (kC A k)) = nxt (kC A k) r j := by
      rw [← nxt_s, show j - 1 + 1 = j by omega]
    -- the first j states of s, with the (j-1)-th linked to the j-th
    have link : ∀ (G' : Li) (z' : St) (i : Nat), Pf G G' → DP A G' z' k s j → i < G'.1 → G'.2 i = nxt (kC A k) r j → Nd G' → ¬ z'.1 13 p = -1 → G'.2 s = r → DP A G' z' k s (j + 1) := by
      intro G' z' i hpf hD' hi ei hnd h13 hG'
      refine ⟨hD'.1, fun j' hj' => ?_⟩
      by_cases c : j' = j
      · subst c
        exact ⟨i, hi, by rw [hG']; exact ei, fun h => by omega, fun h => by omega⟩
      · obtain ⟨i', hi', e1, e2, e3⟩ := hD'.2 j' (by omega)
        refine ⟨i', hi', e1, e2, fun h => ?_⟩
        by_cases c2 : j' + 1 = j
        · have : i' = p := by
            refine hnd i' p hi' (Nat.lt_of_lt_of_le hp hpf.1) ?_
            rw [e1, hpf.2 p hp, hpe, hG', show j' = j - 1 by omega]
          rw [this]; exact h13
        · exact e3 (by omega)
    refine ⟨vp_n (by omega) (by decide), fun hlt => absurd hlt ?_, fun _ => ⟨fun h => absurd r2 h, fun _ => ⟨vp_n (by omega) (by decide), fun hge => ⟨vp_n (by omega) (by decide), ex1 (ex1 ?_)⟩, fun hlt => ⟨vp_n (by omega) (by decide), ?_⟩⟩⟩⟩
    · rw [jI_tn (by omega), hD.1, hG, jI_lt (by omega) (by omega)]; omega
    · -- linked already
      rw [jI_tn (by omega)] at hge ⊢
      rcases m1 p hp with h | ⟨i, hi, e1, m, hm1, e2, e3⟩
      · rw [h] at hge; exact absurd hge (by decide)
      · have : m = k := by rw [hpe, vprev.1] at e2; omega
        subst this
        rw [hpe, enx] at e3
        rw [e1, jI_s]
        refine ih (j + 1) i G z (by omega) (by omega) ?_ hG hL hz hT ?_ hi (by rw [e3]; rfl)
        · rw [hF]
          show spr _ _ n (j + 1) (ins G (nxt (kC A m) r j)) = _
          rw [ins_old hi e3]
        · exact link G z i pf_rfl hD hi e3 hL.2.2.1 (by rw [e1]; exact jI_m1 (by omega)) hG
    · rw [jI_tn (by omega), r4 p hp, hpe, jL_add, enx]
      refine s_insert hW hk hL hT vnow (hm G hbG) (fun s' h => by omega) (fun i z' hi ei hT' hz' h13 => ⟨vp_n (by omega) (by decide), ex1 ⟨vp_n (by omega) (by decide), ex1 (ex1 ?_)⟩⟩) (fun hbad => ⟨vp_n (by omega) (by decide), ex1 ⟨vp_n (by omega) (by decide), ex1 (ex1 ?_)⟩⟩)
      · have hp2 := pf_ins (G := G) (x := nxt (kC A k) r j)
        have hL' := lp_ins hL vnow
        have hnd := hL'.2.2.1
        have hGs : (ins G (nxt (kC A k) r j)).2 s = r := by rw [hp2.2 s (by omega)]; exact hG
        have i1001 : i < 1001 := Nat.lt_of_lt_of_le hi hT'.1.2.2.1
        rw [show (wI z' 13 p (jI i)).1 13 p = jI i from zI_at, jI_s]
        have z13 : ∀ q, q ≠ p → (wI z' 13 p (jI i)).1 13 q = z'.1 13 q := fun q hq => zI_ne hq
        have k13 : ∀ q, q < (ins G (nxt (kC A k) r j)).1 → ¬ z'.1 13 q = -1 → ¬ (wI z' 13 p (jI i)).1 13 q = -1 := by
          intro q _ h
          by_cases c : q = p
          · subst c; rw [zI_at]; exact jI_m1 (by omega)
          · rw [z13 q c]; exact h
        obtain ⟨q1, q2, q3, q4⟩ := hT'
        refine ih (j + 1) i _ _ (by omega) (by omega) hF hGs hL' (fz_I (fz_trans hz (fz_mono hz' sn_sd)) rfl) ⟨⟨q1.1, q1.2.1, q1.2.2.1, q1.2.2.2.1, q1.2.2.2.2⟩, fun q hq => ?_, fun m s' h1 h2 h3 => dn_grow (q3 m s' h1 h2 h3) pf_rfl (hm _ (Nat.le_trans hbG hp2.1) m s' (by omega) h2 h3) rfl rfl k13, fun s' h1 h2 => dn_grow (q4 s' h1 h2) pf_rfl (by have := hp2.1; omega) rfl rfl k13⟩ ?_ hi (by rw [ei]; rfl)
        · by_cases c : q = p
          · subst c
            refine Or.inr ⟨i, hi, zI_at, k, hk, ?_, ?_⟩
            · rw [hp2.2 q hp, hpe, vprev.1]
            · rw [ei, hp2.2 q hp, hpe, enx]
          · rw [z13 q c]; exact q2 q hq
        · refine link _ _ i hp2 (dp_grow hD hp2 (by omega) (hz' 11 s rfl).1 (hz' 12 s rfl).1 (fun q hq h => ?_)) hi ei hnd (by rw [zI_at]; exact jI_m1 (by omega)) hGs
          by_cases c : q = p
          · subst c; rw [zI_at]; exact jI_m1 (by omega)
          · rw [z13 q c, h13 q hq]; exact h
      · have hF1 : 1001 < F.1 := by
          rw [hF]
          exact Nat.lt_of_lt_of_le hbad (pf_spr (c := kC A k) (r := r) (n := n) (j := j + 1) (G := ins G (nxt (kC A k) r j))).1
        have ne : ¬ (1 : Int32) = 0 := by decide
        have hb' := bad (wI (wI z 9 11 1) 13 p 0) (fz_I (fz_I hz rfl) rfl) rfl hF1
        exact ⟨vp_n (by omega) (by decide), fun _ => hb', fun _ => ⟨fun _ => hb', fun h => absurd h ne⟩⟩
theorem al28 {A : Ab} {k b : Nat} {zs : St} {Q : St → Prop} {F : Li} (hW : WF A) (hk : k < kN A) (hb : b = sT A (k + 1)) (oK : OK A zs) (hq8 : ∀ q, q < 12 → zs.1 8 q = jI (hI A q))
    (good : ∀ z', Fz Sd zs z' → TB A k b F z' → Q z') (bad : ∀ z', Fz Sd zs z' → z'.1 9 11 = 1 → 1001 < F.1 → Q z') :
    ∀ (n s : Nat) (G : Li) (z : St), s + n = b → sT A k ≤ s → F = lyr A k n s G → LPr A k (sT A k) b G → Fz Sd zs z → TB A k s G z → L_T_addLayer_28 Q (n + 1) (jI k) (jI (sZ A)) (jL (16 ^ 12 + ad (kC A k))) (jI b) (jI s) z := by
  intro n
  have h16 := hW.2.1
  have hm : ∀ (G : Li), b ≤ G.1 → ∀ m s, m ≤ k → sT A m ≤ s → s < sT A (m + 1) → s < G.1 := by
    intro G hG m s h1 _ h3
    have := sT_mono hW (k := m + 1) (d := k - m) (by omega)
    rw [show m + 1 + (k - m) = k + 1 by omega, ← hb] at this
    omega
  induction n with
  | zero =>
    intro s G z hs h1 hF hL hz hT
    have hbG := hL.2.1
    have hG1 := hT.1.2.2.1
    refine ⟨fun _ => good z hz ?_, fun hn => absurd ?_ hn⟩
    · rw [hF]
      have : s = b := by omega
      subst this; exact hT
    · rw [jI_le (by omega) (by omega)]; omega
  | succ n ih =>
    intro s G z hs h1 hF hL hz hT
    obtain ⟨⟨r1, r2, r3, r4, r5⟩, m1, d1, d2⟩ := id hT
    have hbG := hL.2.1
    have hr := hL.2.2.2.2.1 s h1 (by omega)
    have oKz : OK A z := ok_fr ⟨rfl, fun _ => rfl, fun _ => rfl⟩ hz oK
    have hq8z : ∀ q, q < 12 → z.1 8 q = jI (hI A q) := fun q hq => (hz 8 q rfl).1.trans (hq8 q hq)
    have v0 := vr_nxt hW hk hr (j := 0) (Nat.zero_le _)
    have badK : ∀ z', Fz Sd zs z' → z'.1 9 11 = 1 → 1001 < F.1 → ∀ x24 : Int32, x24 = jI s + 1 → L_T_addLayer_28 Q (n + 1) (jI k) (jI (sZ A)) (jL (16 ^ 12 + ad (kC A k))) (jI b) x24 z' :=
      fun z' h1 h2 h3 _ _ => ⟨fun _ => bad z' h1 h2 h3, fun _ => ⟨fun _ => bad z' h1 h2 h3, fun h => absurd (h.symm.trans h2) (by decide)⟩⟩
    refine ⟨fun hn => absurd hn ?_, fun _ => ⟨fun h => absurd r2 h, fun _ => ⟨vp_n (by omega) (by decide), ?_⟩⟩⟩
    · rw [jI_le (by omega) (by omega)]; omega
    rw [jI_tn (by omega), r4 s (by omega)]
    refine s_takes hW hk hr oKz hq8z ⟨vp_n (by omega) (by decide), ex1 ⟨vp_n (by omega) (by decide), ?_⟩⟩
    rw [show (wI z 11 s (jI (tk A k (G.2 s)))).2 10 s = jL (G.2 s) from r4 s (by omega), show (4503599627370496 : Int64) = jL (16 ^ 13) from rfl, jL_add, ← nxt_0 (kC A k)]
    have hzw : Fz Sd zs (wI z 11 s (jI (tk A k (G.2 s)))) := fz_I hz rfl
    have dnw : ∀ m s', s' ≠ s → s' < G.1 → DN A G z m s' → DN A G (wI z 11 s (jI (tk A k (G.2 s)))) m s' := fun m s' hne hl h => dn_grow h pf_rfl hl (zI_ne hne) rfl (fun _ _ h => h)
    have hT1 : TB A k s G (wI z 11 s (jI (tk A k (G.2 s)))) := by
      refine ⟨⟨r1, r2, r3, r4, r5⟩, m1, fun m s' a1 a2 a3 => dnw m s' ?_ (hm G hbG m s' (by omega) a2 a3) (d1 m s' a1 a2 a3), fun s' a1 a2 => dnw k s' (by omega) (by omega) (d2 s' a1 a2)⟩
      have := sT_mono hW (k := m + 1) (d := k - m - 1) (by omega)
      rw [show m + 1 + (k - m - 1) = k by omega] at this
      omega
    refine s_insert hW hk hL hT1 v0 (hm G hbG) (fun s' h => by omega) (fun i z' hi ei hT' hz' h13 => ⟨vp_n (by omega) (by decide), ex1 ⟨tk A k (G.2 s) + 1, ?_⟩⟩) (fun hbad => ⟨vp_n (by omega) (by decide), ex1 ⟨1, ?_⟩⟩)
    · have hp2 := pf_ins (G := G) (x := nxt (kC A k) (G.2 s) 0)
      have hL' := lp_ins hL v0
      have hGs : (ins G (nxt (kC A k) (G.2 s) 0)).2 s = G.2 s := hp2.2 s (by omega)
      have i1001 : i < 1001 := Nat.lt_of_lt_of_le hi hT'.1.2.2.1
      obtain ⟨q1, q2, q3, q4⟩ := hT'
      have dnw2 : ∀ m s', s' ≠ s → s' < G.1 → DN A (ins G (nxt (kC A k) (G.2 s) 0)) z' m s' → DN A (ins G (nxt (kC A k) (G.2 s) 0)) (wI z' 12 s (jI i)) m s' := fun m s' hne hl h => dn_grow h pf_rfl (Nat.lt_of_lt_of_le hl hp2.1) rfl (zI_ne hne) (fun _ _ h => h)
      have e11 : z'.1 11 s = jI (tk A k (G.2 s)) := (hz' 11 s rfl).1.trans zI_at
      refine al92 (zs := zs) (F := spr (kC A k) (G.2 s) (tk A k (G.2 s) + 1) 0 G) hW hk h1 (by omega) hb hr (fun z2 hz2 hT2 => ex1 ?_) (fun z2 hz2 h0 h3 => badK z2 hz2 h0 ?_) (tk A k (G.2 s)) 1 i _ _ (by omega) (Nat.le_refl _) rfl hGs hL' (fz_I (fz_trans hzw (fz_mono hz' sn_sd)) rfl) ⟨⟨q1.1, q1.2.1, q1.2.2.1, q1.2.2.2.1, q1.2.2.2.2⟩, q2, fun m s' a1 a2 a3 => dnw2 m s' ?_ (hm G hbG m s' (by omega) a2 a3) (q3 m s' a1 a2 a3), fun s' a1 a2 => dnw2 k s' (by omega) (by omega) (q4 s' a1 a2)⟩ ⟨?_, fun j hj => ?_⟩ hi ei
      · rw [jI_s]
        exact ih (s + 1) _ z2 (by omega) (by omega) hF (lp_spr (s := s) hW hk hr hL (by omega)) hz2 hT2
      · rw [hF]
        exact Nat.lt_of_lt_of_le h3 (pf_lyr (A := A) (k := k) (n := n) (s := s + 1) (G := spr (kC A k) (G.2 s) (tk A k (G.2 s) + 1) 0 G)).1
      · have := sT_mono hW (k := m + 1) (d := k - m - 1) (by omega)
        rw [show m + 1 + (k - m - 1) = k by omega] at this
        omega
      · rw [hGs]; exact e11
      · have : j = 0 := by omega
        subst this
        exact ⟨i, hi, by rw [hGs]; exact ei, fun _ => zI_at, fun h => by omega⟩
    · have hF1 : 1001 < F.1 := by
        rw [hF]
        exact Nat.lt_of_lt_of_le (Nat.lt_of_lt_of_le hbad (pf_spr (c := kC A k) (r := G.2 s) (n := tk A k (G.2 s)) (j := 1) (G := ins G (nxt (kC A k) (G.2 s) 0))).1) (pf_lyr (A := A) (k := k) (n := n) (s := s + 1) (G := spr (kC A k) (G.2 s) (tk A k (G.2 s) + 1) 0 G)).1
      have ne : ¬ (1 : Int32) = 0 := by decide
      have hb' := badK (wI (wI (wI z 11 s (jI (tk A k (G.2 s)))) 9 11 1) 12 s 0) (fz_I (fz_I hzw rfl) rfl) rfl hF1
      exact ⟨vp_n (by omega) (by decide), fun _ => hb', fun _ => ⟨fun _ => hb', fun h => absurd h ne⟩⟩
