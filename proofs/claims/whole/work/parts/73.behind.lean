/-! The pure side: the ways that lead to a state, and the panels with one person. -/
/-- the sum over the n places from a on -/
def sr (f : Nat → Nat) (a n : Nat) : Nat := sm (fun i => f (a + i)) n
theorem sm_fup {f g : Nat → Nat} {x v : Nat} : ∀ {n : Nat}, x < n → (∀ i, i ≠ x → g i = f i) → g x = f x + v → sm g n = sm f n + v
  | 0, h, _, _ => absurd h (Nat.not_lt_zero x)
  | n + 1, h, h1, h2 => by
    show sm g n + g n = sm f n + f n + v
    by_cases e : x = n
    · subst e
      rw [sm_congr (g := f) (fun j hj => h1 j (by omega)), h2]; omega
    · rw [sm_fup (n := n) (by omega) h1 h2, h1 n (by omega)]; omega
def lw (A : Ab) (k : Nat) (w : Nat → Nat) (r : Nat) : Nat := sm (fun j => pas (kH A k) j * w (nxt (kC A k) r j)) (tk A k r + 1)
/-- the sum over a layer of the ways to a state times a weight of the state -/
def ls (A : Ab) (bh : Nat → Nat) (w : Nat → Nat) (k : Nat) : Nat := sr (fun i => bh i * w ((GN A).2 i)) (sT A k) (sT A (k + 1) - sT A k)
def BB (A : Ab) (bh : Nat → Nat) (z : St) : Prop := ∀ i, i < (GN A).1 → z.2 15 i = jL (bh i)
def BOK (A : Ab) (z : St) : Prop := ∃ bh : Nat → Nat, BB A bh z ∧ bh 0 = 1 ∧ ∀ k, k < kN A → ∀ w : Nat → Nat, ls A bh w (k + 1) = ls A bh (lw A k w) k
abbrev S15 : Nat → Nat → Bool := fun c _ => c == 15
theorem en_fr15 {A : Ab} {z z' : St} (hF : Fz S15 z z') (h : EN A z) : EN A z' := by
  obtain ⟨e9, e11, hlen, e17, e10, hL⟩ := h
  refine ⟨(hF 9 10 rfl).1.trans e9, (hF 9 11 rfl).1.trans e11, hlen, fun m hm => (hF 17 m rfl).1.trans (e17 m hm), fun i hi => (hF 10 i rfl).2.trans (e10 i hi), fun m s hm h1 h2 => ?_⟩
  obtain ⟨l11, ⟨i0, hi0, ei0, l12⟩, lnx⟩ := hL m s hm h1 h2
  refine ⟨(hF 11 s rfl).1.trans l11, ⟨i0, hi0, ei0, (hF 12 s rfl).1.trans l12⟩, fun j hj i hi ei => ?_⟩
  obtain ⟨i', hi', ei', e13⟩ := lnx j hj i hi ei
  exact ⟨i', hi', ei', (hF 13 i rfl).1.trans e13⟩
/-- a weight is added at a state of layer k -/
theorem ls_add {A : Ab} {bh : Nat → Nat} {k x v : Nat} (w : Nat → Nat) (h1 : sT A k ≤ x) (h2 : x < sT A (k + 1)) : ls A (fup bh x (bh x + v)) w k = ls A bh w k + v * w ((GN A).2 x) := by
  unfold ls sr
  refine sm_fup (x := x - sT A k) (by omega) (fun i hi => ?_) ?_
  · show fup bh x (bh x + v) (sT A k + i) * _ = _
    rw [fup_ne (by omega)]
  · show fup bh x (bh x + v) (sT A k + (x - sT A k)) * _ = bh (sT A k + (x - sT A k)) * _ + _
    rw [show sT A k + (x - sT A k) = x by omega, fup_at, Nat.add_mul]
theorem ls_keep {A : Ab} {bh bh' : Nat → Nat} {k : Nat} (w : Nat → Nat) (h : ∀ i, sT A k ≤ i → i < sT A (k + 1) → bh' i = bh i) : ls A bh' w k = ls A bh w k := by
  unfold ls sr
  refine sm_congr (fun i hi => ?_)
  show bh' (sT A k + i) * _ = bh (sT A k + i) * _
  rw [h _ (by omega) (by omega)]
theorem lay_dis {A : Ab} (hW : WF A) {k m i : Nat} (hk : k ≤ kN A) (hm : m ≤ kN A) (h1 : sT A k ≤ i) (h2 : i < sT A (k + 1)) (h3 : sT A m ≤ i) (h4 : i < sT A (m + 1)) : k = m := by
  rcases Nat.lt_trichotomy k m with h | h | h
  · have := sT_mono hW (k := k + 1) (d := m - (k + 1)) (by omega)
    rw [show k + 1 + (m - (k + 1)) = m by omega] at this; omega
  · exact h
  · have := sT_mono hW (k := m + 1) (d := k - (m + 1)) (by omega)
    rw [show m + 1 + (k - (m + 1)) = k by omega] at this; omega
/-- what is passed on from state s: up to the j-th state -/
theorem s_passOn {A : Ab} {k s : Nat} {zs : St} {bh : Nat → Nat} {Q : St → Prop} (hW : WF A) (hk : k < kN A) (h1 : sT A k ≤ s) (h2 : s < sT A (k + 1)) (hE : EN A zs) (hP : Pas (zs.1 18)) (hB : BB A bh zs)
    (hQ : ∀ bh' z', Fz S15 zs z' → BB A bh' z' → (∀ i, ¬ (sT A (k + 1) ≤ i ∧ i < sT A (k + 2)) → bh' i = bh i) → (∀ w, ls A bh' w (k + 1) = ls A bh w (k + 1) + bh s * lw A k w ((GN A).2 s)) → Q z') : P_T_passOn (jI s) (jI (kH A k)) zs Q := by
  have hv := gn_vr hW (by omega) h1 h2
  have l1 := sT_len (A := A) (k := k) (by omega)
  have h40 := kH_le hW.2.2.1 hk
  have hN := hW.1
  have t8 := tk8 (k := k) (r := (GN A).2 s) hW
  have hlen := hE.2.2.1
  have lay : ∀ j i, j ≤ tk A k ((GN A).2 s) → i < (GN A).1 → (GN A).2 i = nxt (kC A k) ((GN A).2 s) j → sT A (k + 1) ≤ i ∧ i < sT A (k + 2) := by
    intro j i hj hi ei
    have hv' := vr_nxt hW hk hv hj
    rw [← ei] at hv'
    exact gn_layer hW (k := k + 1) (by omega) hi hv'.1
  have sne : ∀ i, sT A (k + 1) ≤ i → s ≠ i := fun i hi => by omega
  -- one step
  have step : ∀ (b : Nat → Nat) (z : St) (i c : Nat) (x : Int64), i < (GN A).1 → BB A b z → x = jL (b i + c) → BB A (fup b i (b i + c)) (wL z 15 i x) := by
    intro b z i c x hi hb hx i' hi'
    by_cases e : i' = i
    · subst e; rw [fup_at, zL_at]; exact hx
    · rw [fup_ne e, zL_ne e]; exact hb i' hi'
  have loop : ∀ (d j i : Nat) (b : Nat → Nat) (z : St), j + d = tk A k ((GN A).2 s) + 1 → 1 ≤ j → i < (GN A).1 → (GN A).2 i = nxt (kC A k) ((GN A).2 s) (j - 1) → Fz S15 zs z → BB A b z → (∀ i, ¬ (sT A (k + 1) ≤ i ∧ i < sT A (k + 2)) → b i = bh i) → (∀ w, ls A b w (k + 1) = ls A bh w (k + 1) + bh s * sm (fun j => pas (kH A k) j * w (nxt (kC A k) ((GN A).2 s) j)) j) → L_T_passOn_25 Q (d + 1) (jI s) (jI (kH A k)) (jI i) (jI j) z := by
    intro d
    induction d with
    | zero =>
      intro j i b z hj hj1 hi ei hz hb hko hls
      obtain ⟨l11, _, _⟩ := (en_fr15 hz hE).2.2.2.2.2 k s hk h1 h2
      refine ⟨vp_n (by omega) (by decide), fun _ => hQ b z hz hb hko (fun w => ?_), fun hn => absurd ?_ hn⟩
      · rw [hls w]; unfold lw; rw [show j = tk A k ((GN A).2 s) + 1 by omega]
      · rw [jI_tn (by omega), l11, jI_lt (by omega) (by omega)]; omega
    | succ d ih =>
      intro j i b z hj hj1 hi ei hz hb hko hls
      obtain ⟨l11, _, lnx⟩ := (en_fr15 hz hE).2.2.2.2.2 k s hk h1 h2
      obtain ⟨i', hi', ei', e13⟩ := lnx (j - 1) (by omega) i hi ei
      rw [show j - 1 + 1 = j by omega] at ei'
      have hli := lay j i' (by omega) hi' ei'
      refine ⟨vp_n (by omega) (by decide), fun hn => absurd hn ?_, fun _ => ⟨vp_n (by omega) (by decide), ex1 ?_⟩⟩
      · rw [jI_tn (by omega), l11, jI_lt (by omega) (by omega)]; omega
      rw [jI_tn (n := i) (by omega), e13]
      refine ⟨vp_n (by omega) (by decide), s_choose (pas_fr (fun _ => rfl) hz hP) (by omega) (by omega) ⟨vp_n (by omega) (by decide), vp_n (by omega) (by decide), ex1 (ex1 ?_)⟩⟩
      rw [jI_tn (n := i') (by omega), jI_tn (n := s) (by omega), hb i' hi', hb s (by omega), hko s (by omega), jL_mul, jL_add, jI_s]
      refine ih (j + 1) i' (fup b i' (b i' + pas (kH A k) j * bh s)) _ (by omega) (by omega) hi' ei' (fz_L hz rfl) (step b z i' _ _ hi' hb rfl) (fun i2 hi2 => ?_) (fun w => ?_)
      · rw [fup_ne (fun e => hi2 (by rw [e]; exact hli))]; exact hko i2 hi2
      · rw [ls_add w hli.1 hli.2, hls w, ei']
        show _ = _ + bh s * (sm _ j + pas (kH A k) j * w (nxt (kC A k) ((GN A).2 s) j))
        rw [Nat.mul_add, Nat.mul_comm (pas (kH A k) j) (bh s), Nat.mul_assoc]; omega
  obtain ⟨l11, ⟨i0, hi0, ei0, l12⟩, lnx⟩ := hE.2.2.2.2.2 k s hk h1 h2
  have hli := lay 0 i0 (Nat.zero_le _) hi0 ei0
  unfold P_T_passOn
  rw [jI_tn (by omega), l12]
  refine ⟨vp_n (by omega) (by decide), ex1 ⟨vp_n (by omega) (by decide), vp_n (by omega) (by decide), vp_n (by omega) (by decide), ex1 ?_⟩⟩
  rw [jI_tn (by omega), hB i0 hi0, hB s (by omega), jL_add]
  refine ⟨_, loop (tk A k ((GN A).2 s)) 1 i0 (fup bh i0 (bh i0 + bh s)) _ (by omega) (Nat.le_refl _) hi0 ei0 (fz_L fz_rfl rfl) (step bh zs i0 _ _ hi0 hB rfl) (fun i2 hi2 => fup_ne (fun e => hi2 (by rw [e]; exact hli))) (fun w => ?_)⟩
  rw [ls_add w hli.1 hli.2, ei0]
  show _ = _ + bh s * (0 + pas (kH A k) 0 * w _)
  rw [pas_0, Nat.one_mul, Nat.zero_add]
/-- layers up to k are done; of layer k the states before s are passed on -/
def BI (A : Ab) (k s : Nat) (bh : Nat → Nat) : Prop := bh 0 = 1 ∧ (∀ m, m < k → ∀ w, ls A bh w (m + 1) = ls A bh (lw A m w) m) ∧ (∀ w, ls A bh w (k + 1) = sr (fun i => bh i * lw A k w ((GN A).2 i)) (sT A k) (s - sT A k)) ∧ ∀ i, sT A (k + 2) ≤ i → bh i = 0
theorem s_cb35 {A : Ab} {k : Nat} {zs : St} {K : Int32 → St → Prop} {Q : St → Prop} (hW : WF A) (hk : k < kN A) (oK : OK A zs) (hE : EN A zs) (hP : Pas (zs.1 18))
    (hK : ∀ bh z', Fz S15 zs z' → BB A bh z' → BI A k (sT A (k + 1)) bh → K (jI k) z') : ∀ (d s : Nat) (bh : Nat → Nat) (z : St), s + d = sT A (k + 1) → sT A k ≤ s → Fz S15 zs z → BB A bh z → BI A k s bh → L_T_countBehind_35 K Q (d + 1) (jI k) (jI s) z := by
  intro d
  have h16 := hW.2.1
  have hlen := hE.2.2.1
  have l1 := sT_len (A := A) (k := k) (by omega)
  have l12 := sT_le hW (k := k + 1) (by omega)
  induction d with
  | zero =>
    intro s bh z hs h1 hz hB hI
    have h17 := (en_fr15 hz hE).2.2.2.1 (k + 1) (by omega)
    unfold L_T_countBehind_35
    rw [show (1 : Int32) = jI 1 from rfl, jI_add, jI_tn (by omega), h17, jI_le (by omega) (by omega)]
    exact ⟨vp_n (by omega) (by decide), fun _ => hK bh z hz hB (by rw [show sT A (k + 1) = s by omega]; exact hI), fun hn => absurd (by omega) hn⟩
  | succ d ih =>
    intro s bh z hs h1 hz hB hI
    have hEz := en_fr15 hz hE
    have h17 := hEz.2.2.2.1 (k + 1) (by omega)
    have oKz : OK A z := ok_fr ⟨rfl, fun _ => rfl, fun _ => rfl⟩ hz oK
    unfold L_T_countBehind_35
    rw [show (1 : Int32) = jI 1 from rfl, jI_add, jI_tn (by omega), h17, jI_le (by omega) (by omega)]
    refine ⟨vp_n (by omega) (by decide), fun hn => absurd hn (by omega), fun _ => ⟨vp_n (by omega) (by decide), ?_⟩⟩
    rw [jI_tn (by omega), oKz.2.2 k hk]
    refine s_passOn hW hk h1 (by omega) hEz (pas_fr (fun _ => rfl) hz hP) hB (fun bh' z' hz' hB' hko hls => ex1 ?_)
    rw [jI_add]
    obtain ⟨i1, i2, i3, i4⟩ := hI
    have lk0 : ∀ i, i < sT A (k + 1) → bh' i = bh i := fun i hi => hko i (fun h => by omega)
    refine ih (s + 1) bh' z' (by omega) (by omega) (fz_trans hz hz') hB' ⟨(lk0 0 (by omega)).trans i1, fun m hm w => ?_, fun w => ?_, fun i hi => ?_⟩
    · have hmo := sT_mono hW (k := m + 2) (d := k + 1 - (m + 2)) (by omega)
      rw [show m + 2 + (k + 1 - (m + 2)) = k + 1 by omega] at hmo
      have hmo2 := sT_le hW (k := m + 1) (by omega)
      rw [ls_keep w (bh := bh) (fun i a b => lk0 i (by have b' : i < sT A (m + 2) := b; omega)), ls_keep (lw A m w) (bh := bh) (fun i a b => lk0 i (by have : sT A (m + 1) ≤ sT A (m + 2) := hmo2; omega))]
      exact i2 m hm w
    · rw [hls w, i3 w, show s + 1 - sT A k = (s - sT A k) + 1 by omega]
      unfold sr
      show _ = sm (fun i => bh' (sT A k + i) * lw A k w ((GN A).2 (sT A k + i))) (s - sT A k) + bh' (sT A k + (s - sT A k)) * lw A k w ((GN A).2 (sT A k + (s - sT A k)))
      rw [show sT A k + (s - sT A k) = s by omega, lk0 s (by omega)]
      congr 1
      refine sm_congr (fun i hi => ?_)
      rw [lk0 _ (by omega)]
    · rw [hko i (fun h => by omega)]; exact i4 i hi
theorem s_cb17 {A : Ab} {zs : St} {Q : St → Prop} (hW : WF A) (oK : OK A zs) (hE : EN A zs) (hP : Pas (zs.1 18)) (hQ : ∀ z', Fz S15 zs z' → BOK A z' → Q z') :
    ∀ (d k : Nat) (bh : Nat → Nat) (z : St), k + d = kN A → Fz S15 zs z → BB A bh z → BI A k (sT A k) bh → L_T_countBehind_17 Q (d + 1) (jI k) z := by
  intro d
  have h16 := hW.2.1
  have hlen := hE.2.2.1
  induction d with
  | zero =>
    intro k bh z hk hz hB hI
    have hk' : k = kN A := by omega
    subst hk'
    have oKz : OK A z := ok_fr ⟨rfl, fun _ => rfl, fun _ => rfl⟩ hz oK
    refine ⟨fun _ => hQ z hz ⟨bh, hB, hI.1, hI.2.1⟩, fun hn => absurd ?_ hn⟩
    rw [oKz.1]; exact Int32.le_refl _
  | succ d ih =>
    intro k bh z hk hz hB hI
    have oKz : OK A z := ok_fr ⟨rfl, fun _ => rfl, fun _ => rfl⟩ hz oK
    have hEz := en_fr15 hz hE
    have hle := sT_le hW (k := k) (by omega)
    refine ⟨fun hn => absurd hn ?_, fun _ => ⟨vp_n (by omega) (by decide), ex1 ?_⟩⟩
    · rw [oKz.1, jI_le (by omega) (by omega)]; omega
    rw [jI_tn (by omega), hEz.2.2.2.1 k (by omega)]
    refine ⟨_, s_cb35 (zs := z) hW (by omega) oKz hEz (pas_fr (fun _ => rfl) hz hP) (fun bh' z' hz' hB' hI' => ex1 ?_) (sT A (k + 1) - sT A k) (sT A k) bh z (by omega) (Nat.le_refl _) fz_rfl hB hI⟩
    rw [jI_s]
    obtain ⟨i1, i2, i3, i4⟩ := hI'
    refine ih (k + 1) bh' z' (by omega) (fz_trans hz hz') hB' ⟨i1, fun m hm w => ?_, fun w => ?_, fun i hi => i4 i ?_⟩
    · by_cases e : m = k
      · subst e; exact i3 w
      · exact i2 m (by omega) w
    · rw [Nat.sub_self]
      show ls A bh' w (k + 1 + 1) = 0
      unfold ls sr
      rw [sm_congr (g := fun _ => 0) (fun i hi => ?_), sm_0]
      show bh' (sT A (k + 2) + i) * _ = 0
      rw [i4 _ (Nat.le_add_right _ _), Nat.zero_mul]
    · have h3 : sT A (k + 2) ≤ sT A (k + 3) := pf_prs.1
      exact Nat.le_trans h3 hi
theorem s_fill2 {z : St} {Q : St → Prop} (h : ∀ z', Fz S15 z z' → (∀ i, i < 1001 → z'.2 15 i = 0) → Q z') : P_A_fill2 0 z Q := by
  have loop : ∀ (d i : Nat) (z' : St), i + d = 1001 → Fz S15 z z' → (∀ i', i' < i → z'.2 15 i' = 0) → L_A_fill2_6 Q (d + 1) 0 (jI i) (1001 : Int32) z' := by
    intro d
    induction d with
    | zero =>
      intro i z' hi hF hv
      refine ⟨fun _ => h z' hF (fun i' hi' => hv i' (by omega)), fun hn => absurd ?_ hn⟩
      rw [show (1001 : Int32) = jI 1001 from rfl, jI_le (by decide) (by omega)]; omega
    | succ d ih =>
      intro i z' hi hF hv
      refine ⟨fun hn => absurd hn ?_, fun _ => ⟨vp_n (by omega) (by decide), ex1 (ex1 ?_)⟩⟩
      · rw [show (1001 : Int32) = jI 1001 from rfl, jI_le (by decide) (by omega)]; omega
      rw [jI_tn (by omega), jI_s]
      refine ih (i + 1) _ (by omega) (fz_L hF rfl) (fun i' hi' => ?_)
      by_cases e : i' = i
      · subst e; exact zL_at
      · rw [zL_ne e]; exact hv i' (by omega)
  obtain ⟨d, hd⟩ : ∃ d : Nat, d = 1001 := ⟨_, rfl⟩
  exact ⟨_, loop d 0 z (by omega) fz_rfl (fun i hi => absurd hi (Nat.not_lt_zero i))⟩
theorem s_countBehind {A : Ab} {z : St} {Q : St → Prop} (hW : WF A) (oK : OK A z) (hE : EN A z) (hP : Pas (z.1 18)) (hQ : ∀ z', Fz S15 z z' → BOK A z' → Q z') : P_T_countBehind z Q := by
  have hlen := hE.2.2.1
  refine s_fill2 (fun z1 hz1 h0 => ⟨by unfold vp_in; decide, ex1 ?_⟩)
  have hz2 : Fz S15 z (wL z1 15 0 1) := fz_L hz1 rfl
  refine ⟨_, s_cb17 (zs := wL z1 15 0 1) hW (ok_fr ⟨rfl, fun _ => rfl, fun _ => rfl⟩ hz2 oK) (en_fr15 hz2 hE) (pas_fr (fun _ => rfl) hz2 hP) (fun z3 hz3 hB => hQ z3 (fz_trans hz2 hz3) hB) (kN A) 0 (fup (fun _ => 0) 0 1) _ (by omega) fz_rfl (fun i hi => ?_) ⟨fup_at, fun m hm => absurd hm (Nat.not_lt_zero m), fun w => ?_, fun i hi => ?_⟩⟩
  · by_cases e : i = 0
    · subst e; rw [fup_at]; exact zL_at (z := z1) (c := 15)
    · rw [fup_ne e]; exact (zL_ne (z := z1) (c := 15) e).trans (h0 i (by omega))
  · rw [Nat.sub_self]
    show ls A (fup (fun _ => 0) 0 1) w 1 = 0
    unfold ls sr
    rw [sm_congr (g := fun _ => 0) (fun i hi => ?_), sm_0]
    show fup (fun _ => 0) 0 1 (sT A 1 + i) * _ = 0
    rw [fup_ne (by rw [sT_1]; omega), Nat.zero_mul]
  · have h1 : sT A 1 ≤ sT A 2 := pf_prs.1
    have e1 := sT_1 A
    have hi' : sT A 2 ≤ i := hi
    exact fup_ne (by omega)
/-- panels with one person of a kind: the sum over the kind's layer -/
theorem wq_past {A : Ab} {kd : Nat} : ∀ {n r : Nat}, kd < kN A - n → n ≤ kN A → wq A kd n r = wy A n r
  | 0, _, _, _ => rfl
  | n + 1, r, h, hn => by
    refine sm_congr (fun j _ => ?_)
    have : cf A kd (kN A - (n + 1)) j = pas (kH A (kN A - (n + 1))) j := if_neg (by omega)
    rw [this, wq_past (by omega) (by omega)]
theorem ls_chance {A : Ab} {bh : Nat → Nat} {kd : Nat} (h0 : bh 0 = 1) (hB : ∀ k, k < kN A → ∀ w : Nat → Nat, ls A bh w (k + 1) = ls A bh (lw A k w) k) : ∀ {k : Nat}, k ≤ kd → k ≤ kN A → ls A bh (wq A kd (kN A - k)) k = wq A kd (kN A) 0
  | 0, _, _ => by
    show sm (fun i => bh (0 + i) * wq A kd (kN A - 0) ((GN A).2 (0 + i))) 1 = _
    show 0 + bh (0 + 0) * wq A kd (kN A - 0) ((GN A).2 (0 + 0)) = _
    rw [h0, gn_0, Nat.one_mul, Nat.zero_add]; rfl
  | k + 1, hk, hn => by
    rw [hB k (by omega), ← ls_chance h0 hB (k := k) (by omega) (by omega)]
    unfold ls sr
    refine sm_congr (fun i hi => ?_)
    show bh _ * lw A k _ _ = bh _ * _
    congr 1
    rw [wq_s (by omega)]
    refine sm_congr (fun j _ => ?_)
    rw [show cf A kd k j = pas (kH A k) j from if_neg (by omega)]
theorem s_oneOf {A : Ab} {k s : Nat} {z : St} {Q : Int64 → St → Prop} (hW : WF A) (hk : k < kN A) (h1 : sT A k ≤ s) (h2 : s < sT A (k + 1)) (hE : EN A z) (hP : Pas (z.1 18)) (hA : AH A 0 z) (h : Q (jL (wq A k (kN A - k) ((GN A).2 s))) z) : P_T_aheadWithOneOf (jI s) (jI (kH A k)) z Q := by
  obtain ⟨e9, e11, hlen, e17, e10, hL⟩ := hE
  obtain ⟨l11, ⟨i0, hi0, ei0, l12⟩, lnx⟩ := hL k s hk h1 h2
  have hv := gn_vr hW (by omega) h1 h2
  have hs1 := sT_len (A := A) (k := k) (by omega)
  have h40 := kH_le hW.2.2.1 hk
  have hN := hW.1
  have hK1 := (hW.2.2.1.2.1 k hk).2.2
  have t8 := tk8 (k := k) (r := (GN A).2 s) hW
  have a14 : ∀ j i, j ≤ tk A k ((GN A).2 s) → i < (GN A).1 → (GN A).2 i = nxt (kC A k) ((GN A).2 s) j → z.2 14 i = jL (wq A k (kN A - (k + 1)) (nxt (kC A k) ((GN A).2 s) j)) := by
    intro j i hj hi ei
    have hv' := vr_nxt hW hk hv hj
    rw [← ei] at hv'
    have hl := gn_layer hW (k := k + 1) (by omega) hi hv'.1
    rw [hA (k + 1) i (Nat.zero_le _) (by omega) hl.1 hl.2, ei, wq_past (by omega) (by omega)]
  rw [wq_s hk] at h
  generalize hf : (fun j => cf A k k j * wq A k (kN A - (k + 1)) (nxt (kC A k) ((GN A).2 s) j)) = f at h
  have fat : ∀ j, 1 ≤ j → f j = pas (kH A k - 1) (j - 1) * wq A k (kN A - (k + 1)) (nxt (kC A k) ((GN A).2 s) j) := by
    intro j hj
    rw [← hf]
    show cf A k k j * _ = _
    rw [show cf A k k j = pas (kH A k - 1) (j - 1) from by unfold cf; rw [if_pos rfl, if_neg (by omega)]]
  have f0 : f 0 = 0 := by
    rw [← hf]
    show cf A k k 0 * _ = 0
    rw [show cf A k k 0 = 0 from by unfold cf; rw [if_pos rfl, if_pos rfl], Nat.zero_mul]
  have loop : ∀ (d j i : Nat), j + d = tk A k ((GN A).2 s) + 1 → 1 ≤ j → i < (GN A).1 → (GN A).2 i = nxt (kC A k) ((GN A).2 s) (j - 1) → L_T_aheadWithOneOf_13 Q (d + 1) (jI s) (jI (kH A k)) (jI i) (jL (sm f j)) (jI j) z := by
    intro d
    induction d with
    | zero =>
      intro j i hj hj1 hi ei
      refine ⟨vp_n (by omega) (by decide), fun _ => ?_, fun hn => absurd ?_ hn⟩
      · rw [show j = tk A k ((GN A).2 s) + 1 by omega]; exact h
      · rw [jI_tn (by omega), l11, jI_lt (by omega) (by omega)]; omega
    | succ d ih =>
      intro j i hj hj1 hi ei
      obtain ⟨i', hi', ei', e13⟩ := lnx (j - 1) (by omega) i hi ei
      rw [show j - 1 + 1 = j by omega] at ei'
      refine ⟨vp_n (by omega) (by decide), fun hn => absurd hn ?_, fun _ => ⟨vp_n (by omega) (by decide), ex1 ?_⟩⟩
      · rw [jI_tn (by omega), l11, jI_lt (by omega) (by omega)]; omega
      rw [jI_tn (n := i) (by omega), e13, jI_p (by omega), jI_p (by omega)]
      refine s_choose hP (by omega) (by omega) ⟨vp_n (by omega) (by decide), ex1 (ex1 ?_)⟩
      rw [jI_tn (by omega), a14 j i' (by omega) hi' ei', jL_mul, jL_add, jI_s, ← fat j hj1]
      exact ih (j + 1) i' (by omega) (by omega) hi' ei'
  unfold P_T_aheadWithOneOf
  rw [jI_tn (by omega), l12]
  refine ⟨vp_n (by omega) (by decide), ex1 ?_⟩
  have e1 : (0 : Int64) = jL (sm f 1) := by
    show _ = jL (0 + f 0)
    rw [f0]; rfl
  rw [e1]
  exact ⟨_, loop (tk A k ((GN A).2 s)) 1 i0 (by omega) (Nat.le_refl _) hi0 ei0⟩
def BH (A : Ab) (z : St) : Prop := z.1 9 12 = 0 ∨ (z.1 9 12 = 1 ∧ BOK A z)
abbrev S159 : Nat → Nat → Bool := fun c k => c == 15 || (c == 9 && k == 12)
theorem s_pw26 {A : Ab} {k : Nat} {z : St} {Q : Int64 → St → Prop} (hW : WF A) (hk : k < kN A) (oK : OK A z) (hE : EN A z) (hP : Pas (z.1 18)) (hA : AH A 0 z) (hB : BOK A z) (h : Q (jL (wq A k (kN A) 0)) z) : ∃ n, L_T_panelsWithOneOf_26 Q n (jI k) 0 (jI (sT A k)) z := by
  obtain ⟨bh, hb, b0, hB⟩ := hB
  have h16 := hW.2.1
  have hlen := hE.2.2.1
  have l1 := sT_len (A := A) (k := k) (by omega)
  have hle := sT_le hW (k := k) (by omega)
  rw [← ls_chance b0 hB (Nat.le_refl _) (Nat.le_of_lt hk)] at h
  unfold ls sr at h
  generalize hf : (fun i => (fun i => bh i * wq A k (kN A - k) ((GN A).2 i)) (sT A k + i)) = f at h
  have h17 := hE.2.2.2.1 (k + 1) (by omega)
  have loop : ∀ (d s : Nat), sT A k + s + d = sT A (k + 1) → L_T_panelsWithOneOf_26 Q (d + 1) (jI k) (jL (sm f s)) (jI (sT A k + s)) z := by
    intro d
    induction d with
    | zero =>
      intro s hs
      unfold L_T_panelsWithOneOf_26
      rw [show (1 : Int32) = jI 1 from rfl, jI_add, jI_tn (by omega), h17, jI_le (by omega) (by omega)]
      refine ⟨vp_n (by omega) (by decide), fun _ => ?_, fun hn => absurd (by omega) hn⟩
      rw [show s = sT A (k + 1) - sT A k by omega]; exact h
    | succ d ih =>
      intro s hs
      unfold L_T_panelsWithOneOf_26
      rw [show (1 : Int32) = jI 1 from rfl, jI_add, jI_tn (n := k + 1) (by omega), h17, jI_le (by omega) (by omega)]
      refine ⟨vp_n (by omega) (by decide), fun hn => absurd hn (by omega), fun _ => ⟨vp_n (by omega) (by decide), vp_n (by omega) (by decide), ?_⟩⟩
      rw [jI_tn (n := k) (by omega), oK.2.2 k hk]
      refine s_oneOf hW hk (by omega) (by omega) hE hP hA (ex1 (ex1 ?_))
      rw [jI_tn (by omega), hb _ (by omega), jL_mul, jL_add, jI_add]
      have := ih (s + 1) (by omega)
      have e : sm f s + bh (sT A k + s) * wq A k (kN A - k) ((GN A).2 (sT A k + s)) = sm f (s + 1) := by
        show _ = sm f s + f s
        rw [← hf]
      rw [e]
      exact this
  exact ⟨_, loop (sT A (k + 1) - sT A k) 0 (by omega)⟩
theorem s_panelsWith {A : Ab} {k : Nat} {z : St} {Q : Int64 → St → Prop} (hW : WF A) (hk : k < kN A) (oK : OK A z) (hE : EN A z) (hP : Pas (z.1 18)) (hA : AH A 0 z) (hB : BH A z) (h : ∀ z', Fz S159 z z' → TAB A z' → BH A z' → Q (jL (wq A k (kN A) 0)) z') : P_T_panelsWithOneOf (jI k) z Q := by
  have h16 := hW.2.1
  refine ⟨fun h9 => ?_, fun h9 => s_countBehind hW oK hE hP (fun z1 hz1 hB1 => ex1 ?_)⟩
  · rcases id hB with h0 | ⟨h1, hb⟩
    · exact absurd h0 h9
    · rw [jI_tn (by omega), hE.2.2.2.1 k (by omega)]
      exact ⟨vp_n (by omega) (by decide), ex1 (s_pw26 hW hk oK hE hP hA hb (h z fz_rfl ⟨hE, hA⟩ hB))⟩
  · have hE1 := en_fr15 hz1 hE
    have hA1 : AH A 0 z1 := fun m i a1 a2 a3 a4 => (hz1 14 i rfl).2.trans (hA m i a1 a2 a3 a4)
    have oK1 : OK A z1 := ok_fr ⟨rfl, fun _ => rfl, fun _ => rfl⟩ hz1 oK
    have hP1 : Pas (z1.1 18) := pas_fr (fun _ => rfl) hz1 hP
    rw [jI_tn (by omega), show (wI z1 9 12 1).1 17 k = jI (sT A k) from hE1.2.2.2.1 k (by omega)]
    refine ⟨vp_n (by omega) (by decide), ex1 (s_pw26 (z := wI z1 9 12 1) hW hk oK1 hE1 hP1 hA1 hB1 (h _ ?_ ⟨hE1, hA1⟩ (Or.inr ⟨rfl, hB1⟩)))⟩
    refine fz_I (fz_mono hz1 (fun c k e => ?_)) rfl
    rw [Bool.or_eq_false_iff] at e; exact e.1
