/-! The pure side: the tally as a whole. -/
abbrev Su : Nat → Nat → Bool := fun c _ => decide (9 ≤ c) && decide (c ≤ 17)
theorem su_out {c k : Nat} (e : Su c k = false) : c < 9 ∨ 17 < c := by
  simp only [Bool.and_eq_false_iff, decide_eq_false_iff_not] at e
  omega
theorem sd_su (c k : Nat) (e : Su c k = false) : Sd c k = false := by
  have h := su_out e
  simp only [Bool.or_eq_false_iff, Bool.and_eq_false_iff, beq_eq_false_iff_ne]
  exact ⟨by omega, by omega, by omega, by omega, by omega, Or.inl (by omega)⟩
theorem sn_su (c k : Nat) (e : Su c k = false) : Sn c k = false := sn_sd c k (sd_su c k e)
abbrev S16 : Nat → Nat → Bool := fun c _ => c == 16
theorem s_fill {z : St} {Q : St → Prop} (h : ∀ z', Fz S16 z z' → (∀ i, i < 2048 → z'.1 16 i = -1) → Q z') : P_A_fill (-1) z Q := by
  have loop : ∀ (d i : Nat) (z' : St), i + d = 2048 → Fz S16 z z' → (∀ i', i' < i → z'.1 16 i' = -1) → L_A_fill_5 Q (d + 1) (-1) (jI i) (2048 : Int32) z' := by
    intro d
    induction d with
    | zero =>
      intro i z' hi hF hv
      refine ⟨fun _ => h z' hF (fun i' hi' => hv i' (by omega)), fun hn => absurd ?_ hn⟩
      rw [show (2048 : Int32) = jI 2048 from rfl, jI_le (by decide) (by omega)]; omega
    | succ d ih =>
      intro i z' hi hF hv
      refine ⟨fun hn => absurd hn ?_, fun _ => ⟨vp_n (by omega) (by decide), ex1 (ex1 ?_)⟩⟩
      · rw [show (2048 : Int32) = jI 2048 from rfl, jI_le (by decide) (by omega)]; omega
      rw [jI_tn (by omega), jI_s]
      refine ih (i + 1) _ (by omega) (fz_I hF rfl) (fun i' hi' => ?_)
      by_cases e : i' = i
      · subst e; exact zI_at
      · rw [zI_ne e]; exact hv i' (by omega)
  obtain ⟨d, hd⟩ : ∃ d : Nat, d = 2048 := ⟨_, rfl⟩
  exact ⟨_, loop d 0 z (by omega) fz_rfl (fun i hi => absurd hi (Nat.not_lt_zero i))⟩
theorem s_addLayer {A : Ab} {k : Nat} {z : St} {Q : St → Prop} (hW : WF A) (hk : k < kN A) (oK : OK A z) (hq8 : ∀ q, q < 12 → z.1 8 q = jI (hI A q)) (h17 : z.1 17 k = jI (sT A k)) (hT : TB A k (sT A k) (pr A k).1 z)
    (good : ∀ z', Fz Sd z z' → TB A k (sT A (k + 1)) (pr A (k + 1)).1 z' → Q z') (bad : ∀ z', Fz Sd z z' → z'.1 9 11 = 1 → 1001 < (pr A (k + 1)).1.1 → Q z') : P_T_addLayer (jI k) (jI (sZ A)) z Q := by
  have h16 := hW.2.1
  have hK := hW.2.2.1.2.1 k hk
  have hlv := pr_lv hW (k := k) (by omega)
  have hle : sT A k ≤ (pr A k).1.1 := hlv.1
  unfold P_T_addLayer
  rw [jI_tn (by omega), oK.2.1 k hk]
  refine ⟨vp_n (by omega) (by decide), s_oneMore hK.1 (ex1 ⟨vp_n (by omega) (by decide), ex1 ?_⟩)⟩
  rw [h17, hT.1.1]
  refine ⟨_, al28 (b := (pr A k).1.1) hW hk rfl oK hq8 good bad ((pr A k).1.1 - (pr A k).2) (sT A k) (pr A k).1 z (show (pr A k).2 + ((pr A k).1.1 - (pr A k).2) = (pr A k).1.1 from Nat.add_sub_cancel' hle) (Nat.le_refl _) rfl (lv_lp hlv) fz_rfl hT⟩
/-- the links between the states -/
def LK (A : Ab) (z : St) : Prop := ∀ m s, m < kN A → sT A m ≤ s → s < sT A (m + 1) → z.1 11 s = jI (tk A m ((GN A).2 s)) ∧ (∃ i, i < (GN A).1 ∧ (GN A).2 i = nxt (kC A m) ((GN A).2 s) 0 ∧ z.1 12 s = jI i) ∧ ∀ j, j < tk A m ((GN A).2 s) → ∀ i, i < (GN A).1 → (GN A).2 i = nxt (kC A m) ((GN A).2 s) j → ∃ i', i' < (GN A).1 ∧ (GN A).2 i' = nxt (kC A m) ((GN A).2 s) (j + 1) ∧ z.1 13 i = jI i'
def EN (A : Ab) (z : St) : Prop := z.1 9 10 = jI (GN A).1 ∧ z.1 9 11 = 0 ∧ (GN A).1 ≤ 1001 ∧ (∀ m, m ≤ kN A → z.1 17 m = jI (sT A m)) ∧ (∀ i, i < (GN A).1 → z.2 10 i = jL ((GN A).2 i)) ∧ LK A z
theorem tb_lk {A : Ab} {z : St} {s0 : Nat} (hW : WF A) (hT : TB A (kN A) s0 (GN A) z) : LK A z := by
  obtain ⟨r, m1, d1, d2⟩ := hT
  intro m s hm h1 h2
  have hd := d1 m s hm h1 h2
  have hv := gn_vr hW (by omega) h1 h2
  refine ⟨hd.1, ?_, fun j hj i hi ei => ?_⟩
  · obtain ⟨i, hi, e1, e2, _⟩ := hd.2 0 (by omega)
    exact ⟨i, hi, e1, e2 rfl⟩
  · obtain ⟨i1, hi1, e1, _, e3⟩ := hd.2 j (by omega)
    have : i1 = i := gn_nd hW i1 i hi1 hi (e1.trans ei.symm)
    subst this
    rcases m1 i1 hi1 with h | ⟨i', hi', e4, m', hm', e5, e6⟩
    · exact absurd h (e3 (by omega))
    · have hv2 := vr_nxt hW hm hv (j := j) (by omega)
      rw [ei, hv2.1] at e5
      have : m' = m := by omega
      subst this
      exact ⟨i', hi', by rw [e6, ei, nxt_s], e4⟩
theorem s_build31 {A : Ab} {zs : St} {K : Int32 → St → Prop} {Q : St → Prop} (hW : WF A) (oK : OK A zs) (hq8 : ∀ q, q < 12 → zs.1 8 q = jI (hI A q))
    (good : ∀ z', Fz Su zs z' → EN A z' → z'.1 9 12 = zs.1 9 12 → K (jI (sZ A)) z') (bad : ∀ z', Fz Su zs z' → z'.1 9 11 = 1 → 1001 < (GN A).1 → z'.1 17 0 = 0 → K (jI (sZ A)) z') :
    ∀ (d k : Nat) (z : St), k + d = kN A → Fz Su zs z → z.1 9 12 = zs.1 9 12 → (∀ m, m ≤ k → z.1 17 m = jI (sT A m)) → TB A k (sT A k) (pr A k).1 z → L_T_build_31 K Q (d + 1) (jI (sZ A)) (jI k) z := by
  intro d
  have h16 := hW.2.1
  induction d with
  | zero =>
    intro k z hk hz h12 h17 hT
    have hk' : k = kN A := by omega
    subst hk'
    have e5 : z.1 1 5 = jI (kN A) := (hz 1 5 rfl).1.trans oK.1
    refine ⟨fun _ => good z hz ⟨hT.1.1, hT.1.2.1, hT.1.2.2.1, h17, hT.1.2.2.2.1, tb_lk hW hT⟩ h12, fun hn => absurd ?_ hn⟩
    rw [e5]; exact Int32.le_refl _
  | succ d ih =>
    intro k z hk hz h12 h17 hT
    have oKz : OK A z := ok_fr ⟨rfl, fun _ => rfl, fun _ => rfl⟩ hz oK
    have hq8z : ∀ q, q < 12 → z.1 8 q = jI (hI A q) := fun q hq => (hz 8 q rfl).1.trans (hq8 q hq)
    refine ⟨fun hn => absurd hn ?_, fun _ => ⟨fun h => absurd hT.1.2.1 h, fun _ => ?_⟩⟩
    · rw [oKz.1, jI_le (by omega) (by omega)]; omega
    rw [show (1 : Int32) = jI 1 from rfl, jI_add, jI_tn (by omega)]
    refine ⟨vp_n (by omega) (by decide), ex1 ?_⟩
    have hzw : Fz Su zs (wI z 17 (k + 1) (z.1 9 10)) := fz_I hz rfl
    have h17w : ∀ m, m ≤ k + 1 → (wI z 17 (k + 1) (z.1 9 10)).1 17 m = jI (sT A m) := by
      intro m hm
      by_cases e : m = k + 1
      · subst e; rw [zI_at, hT.1.1]; rfl
      · rw [zI_ne e]; exact h17 m (by omega)
    refine s_addLayer hW (by omega) oKz hq8z (h17w k (by omega)) hT (fun z' hz' hT' => ex1 ?_) (fun z' hz' h0 h1 => ex1 ?_)
    · refine ih (k + 1) z' (by omega) (fz_trans hzw (fz_mono hz' sd_su)) ((hz' 9 12 rfl).1.trans h12) (fun m hm => (hz' 17 m rfl).1.trans (h17w m hm)) ⟨hT'.1, hT'.2.1, fun m s a1 a2 a3 => ?_, fun s a1 a2 => absurd a2 (by omega)⟩
      by_cases e : m = k
      · subst e; exact hT'.2.2.2 s a2 a3
      · exact hT'.2.2.1 m s (by omega) a2 a3
    · have hb := bad z' (fz_trans hzw (fz_mono hz' sd_su)) h0 (Nat.lt_of_lt_of_le h1 (gn_pf (A := A) (k := k + 1) (by omega)).1) ((hz' 17 0 rfl).1.trans (h17w 0 (by omega)))
      exact ⟨fun _ => hb, fun _ => ⟨fun _ => hb, fun h => absurd (h.symm.trans h0) (by decide)⟩⟩
/-! The panels among the last states. -/
def bI : Bool → Int32
  | true => 1
  | false => 0
theorem bI_zb (b : Bool) : zb (bI b) := by cases b; exact Or.inl rfl; exact Or.inr rfl
theorem panB_f {A : Ab} {r n : Nat} (h : panB A r n = false) : ∀ {d : Nat}, panB A r (n + d) = false
  | 0 => h
  | d + 1 => by show (panB A r (n + d) && _) = false; rw [panB_f h (d := d)]; rfl
theorem panB_skip {A : Ab} {r t v : Nat} (hv : vS A t ≤ v) : ∀ {d : Nat}, v + d ≤ 4 → panB A r (4 * t + v + d) = panB A r (4 * t + v)
  | 0, _ => rfl
  | d + 1, h => by
    show (panB A r (4 * t + v + d) && (decide (vS A ((4 * t + v + d) / 4) ≤ (4 * t + v + d) % 4) || _)) = _
    rw [panB_skip hv (d := d) (by omega), show (4 * t + v + d) / 4 = t by omega, show (4 * t + v + d) % 4 = v + d by omega, decide_eq_true (show vS A t ≤ v + d by omega), Bool.true_or, Bool.and_true]
theorem panB_s {A : Ab} {r t v : Nat} (hv : v < 4) (h : v < vS A t) : panB A r (4 * t + (v + 1)) = (panB A r (4 * t + v) && decide (lO A (4 * t + v) ≤ hd r (4 * t + v))) := by
  show (panB A r (4 * t + v) && (decide (vS A ((4 * t + v) / 4) ≤ (4 * t + v) % 4) || _)) = _
  rw [show (4 * t + v) / 4 = t by omega, show (4 * t + v) % 4 = v by omega, decide_eq_false (show ¬ vS A t ≤ v by omega), Bool.false_or]
  rfl
theorem s_isPanel {A : Ab} {r : Nat} {z : St} {Q : Int32 → St → Prop} (hW : WF A) (hr : r < 9223372036854775808) (hs : hd r 12 ≤ 8) (oV : OV A z) (hq7 : ∀ q, q < 12 → z.1 7 q = jI (lO A q)) (h : Q (bI (panB A r 12)) z) : P_T_isPanel (jL r) (jI (sZ A)) z Q := by
  have i8 := hW.2.2.2.2.2.2.2
  have inner : ∀ (K : Int64 → Int32 → Int32 → St → Prop) (t : Nat), t < 3 → K (jL r) (bI (panB A r (4 * t + 4))) (jI t) z → ∀ (d v : Nat), v + d = vS A t → L_T_isPanel_30 K Q (d + 1) (jL r) (bI (panB A r (4 * t + v))) (jI t) (jI v) z := by
    intro K t ht hK d
    have h4 := (hW.2.2.2.2.1 t ht).2
    induction d with
    | zero =>
      intro v hv
      refine ⟨vp_n ht (by decide), fun _ => ?_, fun hn => absurd ?_ hn⟩
      · have := panB_skip (A := A) (r := r) (t := t) (v := v) (by omega) (d := 4 - v) (by omega)
        rw [show 4 * t + v + (4 - v) = 4 * t + 4 by omega] at this
        rw [← this]; exact hK
      · rw [jI_tn (by omega), oV t ht, jI_le (by omega) (by omega)]; omega
    | succ d ih =>
      intro v hv
      have e4 : jI t * 4 + jI v = jI (4 * t + v) := by rw [show (4 : Int32) = jI 4 from rfl, jI_mul, jI_add, Nat.mul_comm]
      have ihv := ih (v + 1) (by omega)
      rw [panB_s (by omega) (by omega)] at ihv
      refine ⟨vp_n ht (by decide), fun hn => absurd hn ?_, fun _ => ?_⟩
      · rw [jI_tn (by omega), oV t ht, jI_le (by omega) (by omega)]; omega
      unfold P_O_quotaOf
      rw [e4]
      cases hb : panB A r (4 * t + v) with
      | false =>
        rw [hb, Bool.false_and] at ihv
        refine ⟨fun _ => ex1 ?_, fun h => absurd rfl h⟩
        rw [jI_s]; exact ihv
      | true =>
        rw [hb, Bool.true_and] at ihv
        refine ⟨fun h => absurd h (by decide), fun _ => s_field hr (by omega) ?_⟩
        have hl := (hW.2.2.2.2.2.1 (4 * t + v) (by omega))
        have hlt := hd_lt r (4 * t + v)
        rw [jI_tn (by omega), hq7 _ (by omega), jI_lt (by omega) (by omega)]
        refine ⟨vp_n (by omega) (by decide), fun h => ex1 ?_, fun h => ex1 ?_⟩
        · rw [decide_eq_false (by omega)] at ihv
          rw [jI_s]; exact ihv
        · rw [decide_eq_true (by omega)] at ihv
          rw [jI_s]; exact ihv
  have outer : ∀ b : Bool, b = panB A r 0 → ∃ k, L_T_isPanel_21 Q k (jL r) (bI b) 0 z := by
    intro b hb
    subst hb
    have i := fun K t ht hK => inner K t ht hK (vS A t) 0 (by omega)
    refine ⟨4, fun e => absurd e (by decide), fun _ => ⟨_, i _ 0 (by decide) (ex1 ?_)⟩⟩
    refine ⟨fun e => absurd e (by decide), fun _ => ⟨_, i _ 1 (by decide) (ex1 ?_)⟩⟩
    refine ⟨fun e => absurd e (by decide), fun _ => ⟨_, i _ 2 (by decide) (ex1 ?_)⟩⟩
    exact ⟨fun _ => ⟨bI_zb _, h⟩, fun e => absurd (by decide) e⟩
  unfold P_T_isPanel
  refine s_field (q := 12) hr (by decide) ?_
  rw [jI_eq (by omega) (by omega)]
  refine ⟨fun hne => ?_, fun he => ?_⟩
  · exact outer false (decide_eq_false hne).symm
  · exact outer true (decide_eq_true he).symm
/-! The ways ahead. -/
def AH (A : Ab) (k : Nat) (z : St) : Prop := ∀ m i, k ≤ m → m ≤ kN A → sT A m ≤ i → i < sT A (m + 1) → z.2 14 i = jL (wy A (kN A - m) ((GN A).2 i))
theorem s_choose {n k : Nat} {z : St} {Q : Int64 → St → Prop} (hP : Pas (z.1 18)) (hn : n ≤ 40) (hk : k ≤ 8) (h : Q (jL (pas n k)) z) : P_T_choose (jI n) (jI k) z Q := by
  have hle := pas_le hn hk
  refine ⟨fun e => absurd e (jI_nn (by omega)), fun _ => ⟨fun e => absurd e ?_, fun _ => ⟨fun e => absurd e (jI_nn (by omega)), fun _ => ⟨fun _ => ?_, fun e => absurd ?_ e⟩⟩⟩⟩
  · rw [show (40 : Int32) = jI 40 from rfl, jI_lt (by decide) (by omega)]; omega
  · rw [show (9 : Int32) = jI 9 from rfl, jI_mul, jI_add, jI_tn (by omega), Nat.mul_comm, hP n k hn hk, show nI (pas n k) = jI (pas n k) from rfl, jI_toL (by omega)]
    exact ⟨vp_n (by omega) (by decide), h⟩
  · rw [show (8 : Int32) = jI 8 from rfl, jI_le (by omega) (by decide)]; exact hk
theorem s_ahead {A : Ab} {k s : Nat} {z : St} {Q : Int64 → St → Prop} (hW : WF A) (hk : k < kN A) (h1 : sT A k ≤ s) (h2 : s < sT A (k + 1)) (hE : EN A z) (hP : Pas (z.1 18)) (hA : AH A (k + 1) z) (h : Q (jL (wy A (kN A - k) ((GN A).2 s))) z) : P_T_aheadWithAny (jI s) (jI (kH A k)) z Q := by
  obtain ⟨e9, e11, hlen, e17, e10, hL⟩ := hE
  obtain ⟨l11, ⟨i0, hi0, ei0, l12⟩, lnx⟩ := hL k s hk h1 h2
  have hv := gn_vr hW (by omega) h1 h2
  have hs1 := sT_len (A := A) (k := k) (by omega)
  have h40 := kH_le hW.2.2.1 hk
  have hN := hW.1
  have t8 : tk A k ((GN A).2 s) ≤ 8 := by
    have := (tk_le.mp (Nat.le_refl (tk A k ((GN A).2 s)))).2.1
    have := hW.2.2.2.2.2.2.2
    omega
  -- the next layer's numbers
  have a14 : ∀ j i, j ≤ tk A k ((GN A).2 s) → i < (GN A).1 → (GN A).2 i = nxt (kC A k) ((GN A).2 s) j → z.2 14 i = jL (wy A (kN A - (k + 1)) (nxt (kC A k) ((GN A).2 s) j)) := by
    intro j i hj hi ei
    have hv' := vr_nxt hW hk hv hj
    rw [← ei] at hv'
    have hl := gn_layer hW (k := k + 1) (by omega) hi hv'.1
    rw [hA (k + 1) i (Nat.le_refl _) (by omega) hl.1 hl.2, ei]
  have ewy : wy A (kN A - k) ((GN A).2 s) = sm (fun j => pas (kH A k) j * wy A (kN A - (k + 1)) (nxt (kC A k) ((GN A).2 s) j)) (tk A k ((GN A).2 s) + 1) := by
    rw [show kN A - k = (kN A - (k + 1)) + 1 by omega]
    show sm (fun j => pas (kH A (kN A - (kN A - (k + 1) + 1))) j * wy A (kN A - (k + 1)) (nxt (kC A (kN A - (kN A - (k + 1) + 1))) ((GN A).2 s) j)) (tk A (kN A - (kN A - (k + 1) + 1)) ((GN A).2 s) + 1) = _
    rw [show kN A - (kN A - (k + 1) + 1) = k by omega]
  rw [ewy] at h
  generalize hf : (fun j => pas (kH A k) j * wy A (kN A - (k + 1)) (nxt (kC A k) ((GN A).2 s) j)) = f at h
  have loop : ∀ (d j i : Nat), j + d = tk A k ((GN A).2 s) + 1 → 1 ≤ j → i < (GN A).1 → (GN A).2 i = nxt (kC A k) ((GN A).2 s) (j - 1) → L_T_aheadWithAny_18 Q (d + 1) (jI s) (jI (kH A k)) (jI i) (jL (sm f j)) (jI j) z := by
    intro d
    induction d with
    | zero =>
      intro j i hj hj1 hi ei
      refine ⟨vp_n (by omega) (by decide), fun _ => ?_, fun hn => absurd ?_ hn⟩
      · rw [show j = tk A k ((GN A).2 s) + 1 by omega]; exact h
      · rw [jI_tn (by omega), l11, jI_lt (by omega) (by omega)]; omega
    | succ d ih =>
      intro j i hj hj1 hi ei
      obtain ⟨i', hi', ei', e13⟩ := lnx (j - 1) (by omega) i hi ei
      rw [show j - 1 + 1 = j by omega] at ei'
      refine ⟨vp_n (by omega) (by decide), fun hn => absurd hn ?_, fun _ => ⟨vp_n (by omega) (by decide), ex1 ?_⟩⟩
      · rw [jI_tn (by omega), l11, jI_lt (by omega) (by omega)]; omega
      rw [jI_tn (n := i) (by omega), e13]
      refine s_choose hP (by omega) (by omega) ⟨vp_n (by omega) (by decide), ex1 (ex1 ?_)⟩
      rw [jI_tn (by omega), a14 j i' (by omega) hi' ei', jL_mul, jL_add, jI_s]
      have : sm f j + pas (kH A k) j * wy A (kN A - (k + 1)) (nxt (kC A k) ((GN A).2 s) j) = sm f (j + 1) := by rw [← hf]; rfl
      rw [this]
      exact ih (j + 1) i' (by omega) (by omega) hi' ei'
  unfold P_T_aheadWithAny
  rw [jI_tn (by omega), l12]
  refine ⟨vp_n (by omega) (by decide), ex1 ?_⟩
  rw [jI_tn (by omega)]
  refine ⟨vp_n (by omega) (by decide), ex1 ?_⟩
  have e1 : z.2 14 i0 = jL (sm f 1) := by
    rw [a14 0 i0 (Nat.zero_le _) hi0 ei0, ← hf]
    show _ = jL (0 + pas (kH A k) 0 * _)
    rw [pas_0, Nat.one_mul, Nat.zero_add]
  rw [e1]
  exact ⟨_, loop (tk A k ((GN A).2 s)) 1 i0 (by omega) (Nat.le_refl _) hi0 ei0⟩
