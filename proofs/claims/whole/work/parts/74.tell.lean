/-! The pure side: the panel of a number. -/
theorem cnt_mono {f : Nat → Nat} {c a : Nat} : ∀ {d : Nat}, cnt f c a ≤ cnt f c (a + d)
  | 0 => Nat.le_refl _
  | d + 1 => Nat.le_trans (cnt_mono (d := d)) (Nat.le_add_right _ _)
theorem cnt_mono' {f : Nat → Nat} {c a b : Nat} (h : a ≤ b) : cnt f c a ≤ cnt f c b := by
  have := cnt_mono (f := f) (c := c) (a := a) (d := b - a)
  rw [show a + (b - a) = b by omega] at this; exact this
theorem cnt_at {f : Nat → Nat} {c p : Nat} (h : f p = c) : cnt f c (p + 1) = cnt f c p + 1 := by
  show cnt f c p + (if f p = c then 1 else 0) = _
  rw [if_pos h]
theorem cnt_off {f : Nat → Nat} {c p : Nat} (h : ¬ f p = c) : cnt f c (p + 1) = cnt f c p := by
  show cnt f c p + (if f p = c then 1 else 0) = _
  rw [if_neg h]; rfl
/-- the i-th person of a code -/
def pk (f : Nat → Nat) (c : Nat) : Nat → Nat → Nat
  | 0, _ => 0
  | n + 1, i => if f n = c ∧ cnt f c n = i then n else pk f c n i
theorem pk_at {f : Nat → Nat} {c p : Nat} (hp : f p = c) : ∀ {n : Nat}, p < n → pk f c n (cnt f c p) = p
  | 0, h => absurd h (Nat.not_lt_zero p)
  | n + 1, h => by
    show (if f n = c ∧ cnt f c n = cnt f c p then n else pk f c n (cnt f c p)) = p
    by_cases e : p = n
    · subst e; rw [if_pos ⟨hp, rfl⟩]
    · rw [if_neg (fun h' => ?_)]
      · exact pk_at hp (by omega)
      · have h1 := cnt_at hp
        have h2 := cnt_mono' (f := f) (c := c) (a := p + 1) (b := n) (by omega)
        omega
def pkA (A : Ab) (k i : Nat) : Nat := pk (aC A) (kC A k) (aN A) i
theorem pkA_at {A : Ab} {k p : Nat} (hp : aC A p = kC A k) (h : p < aN A) : pkA A k (cnt (aC A) (kC A k) p) = p := pk_at hp h
/-- the places from b on get n of the last l persons of a kind: the x-th choice -/
def sel (A : Ab) (k : Nat) : Nat → Nat → Nat → Nat → (Nat → Nat) → (Nat → Nat)
  | 0, _, _, _, g => g
  | _ + 1, 0, _, _, g => g
  | l + 1, n + 1, x, b, g => if x < pas l n then sel A k l n x (b + 1) (fup g b (pkA A k (kH A k - (l + 1)))) else sel A k l (n + 1) (x - pas l n) b g
theorem sel_0 (A : Ab) (k l x b : Nat) (g : Nat → Nat) : sel A k l 0 x b g = g := by cases l <;> rfl
abbrev S30 : Nat → Nat → Bool := fun c _ => c == 30
def G30 (b : Nat) (g : Nat → Nat) (z : St) : Prop := ∀ i, i < b → z.1 30 i = jI (g i)
theorem s_tellKind {A : Ab} {k j x b0 : Nat} {g : Nat → Nat} {zs : St} {Q : St → Prop} (hW : WF A) (hk : k < kN A) (hj : b0 + j ≤ 8) (hx : x < pas (kH A k) j) (oK : OK A zs) (oP : OP A zs) (hP : Pas (zs.1 18)) (hg : G30 b0 g zs)
    (hQ : ∀ z', Fz S30 zs z' → G30 (b0 + j) (sel A k (kH A k) j x b0 g) z' → Q z') : P_R_tellKind (jI k) (jI j) (jL x) (jI b0) zs Q := by
  have h16 := hW.2.1
  have h40 := hW.1
  have hle := kH_le hW.2.2.1 hk
  have hKk := hW.2.2.1.2.1 k hk
  have loop : ∀ (d p l n x : Nat) (g : Nat → Nat) (z : St), p + d = aN A → l + cnt (aC A) (kC A k) p = kH A k → n ≤ j → x < pas l n → Fz S30 zs z → G30 (b0 + (j - n)) g z → (∀ z', Fz S30 zs z' → G30 (b0 + j) (sel A k l n x (b0 + (j - n)) g) z' → Q z') → L_R_tellKind_20 Q (d + 1) (jI k) (jI j) (jI b0) (jL x) (jI l) (jI n) (jI p) z := by
    intro d
    induction d with
    | zero =>
      intro p l n x g z hp hl hn hx hz hg hQ
      have oPz := op_fr ⟨rfl, fun _ => rfl⟩ hz oP
      have l0 : l = 0 := by
        rw [show p = aN A by omega] at hl
        have := hKk.2.1; omega
      subst l0
      have n0 : n = 0 := by
        cases n with
        | zero => rfl
        | succ n => exact absurd hx (Nat.not_lt_zero x)
      subst n0
      refine ⟨fun _ => hQ z hz ?_, fun hn => absurd ?_ hn⟩
      · rw [sel_0]; exact hg
      · rw [oPz.1, jI_le (by omega) (by omega)]; omega
    | succ d ih =>
      intro p l n x g z hp hl hn hx hz hg hQ
      have oPz := op_fr ⟨rfl, fun _ => rfl⟩ hz oP
      have oKz : OK A z := ok_fr ⟨rfl, fun _ => rfl, fun _ => rfl⟩ hz oK
      have hc := (hW.2.2.2.1 p (by omega)).1
      refine ⟨fun h => absurd h ?_, fun _ => ⟨fun h0 => ?_, fun h0 => ⟨vp_n (by omega) (by decide), vp_n (by omega) (by decide), ?_⟩⟩⟩
      · rw [oPz.1, jI_le (by omega) (by omega)]; omega
      · rw [show (0 : Int32) = jI 0 from rfl, jI_le (by omega) (by decide)] at h0
        have n0 : n = 0 := by omega
        subst n0
        refine hQ z hz ?_
        rw [sel_0]; exact hg
      rw [show (0 : Int32) = jI 0 from rfl, jI_le (by omega) (by decide)] at h0
      obtain ⟨n, rfl⟩ : ∃ m, n = m + 1 := ⟨n - 1, by omega⟩
      rw [jI_tn (by omega), jI_tn (by omega), oPz.2 p (by omega), oKz.2.1 k hk, jI_eq (by omega) (by omega)]
      refine ⟨fun hne => ex1 ?_, fun he => ex1 ?_⟩
      · rw [jI_s]
        exact ih (p + 1) l (n + 1) x g z (by omega) (by rw [cnt_off hne]; exact hl) hn hx hz hg hQ
      · have h1 := cnt_at he
        have h2 := cnt_mono' (f := aC A) (c := kC A k) (a := p + 1) (b := aN A) (by omega)
        have h3 := hKk.2.1
        obtain ⟨l, rfl⟩ : ∃ m, l = m + 1 := ⟨l - 1, by omega⟩
        have hpl := pas_le (n := l) (k := n) (by omega) (by omega)
        have hpl2 := pas_le (n := l + 1) (k := n + 1) (by omega) (by omega)
        have hsp : pas (l + 1) (n + 1) = pas l n + pas l (n + 1) := rfl
        rw [jI_p (by omega), jI_p (by omega), show l + 1 - 1 = l by omega, show n + 1 - 1 = n by omega]
        refine s_choose (pas_fr (fun _ => rfl) hz hP) (by omega) (by omega) ?_
        rw [jL_le (by omega) (by omega)]
        refine ⟨fun hge => ex1 (ex1 ?_), fun hlt => ?_⟩
        · rw [jL_sub hge, jI_s]
          refine ih (p + 1) l (n + 1) (x - pas l n) g z (by omega) (by omega) hn (by omega) hz hg (fun z' hz' hg' => hQ z' hz' ?_)
          show G30 (b0 + j) (if x < pas l n then _ else sel A k l (n + 1) (x - pas l n) (b0 + (j - (n + 1))) g) z'
          rw [if_neg (by omega)]; exact hg'
        · rw [jI_add, jI_sub (by omega), jI_tn (by omega)]
          refine ⟨vp_n (by omega) (by decide), ex1 (ex1 (ex1 ?_))⟩
          rw [jI_s]
          have eb : b0 + j - (n + 1) = b0 + (j - (n + 1)) := by omega
          have eb2 : b0 + (j - (n + 1)) + 1 = b0 + (j - n) := by omega
          refine ih (p + 1) l n x (fup g (b0 + (j - (n + 1))) p) _ (by omega) (by omega) (by omega) (by omega) (fz_I hz rfl) (fun i hi => ?_) (fun z' hz' hg' => hQ z' hz' ?_)
          · rw [eb]
            by_cases e : i = b0 + (j - (n + 1))
            · rw [e, zI_at, fup_at]
            · rw [zI_ne e, fup_ne e]; exact hg i (by omega)
          · show G30 (b0 + j) (if x < pas l n then sel A k l n x (b0 + (j - (n + 1)) + 1) (fup g (b0 + (j - (n + 1))) (pkA A k (kH A k - (l + 1)))) else _) z'
            rw [if_pos (by omega), eb2, show kH A k - (l + 1) = cnt (aC A) (kC A k) p by omega, pkA_at he (by omega)]
            exact hg'
  unfold P_R_tellKind
  rw [jI_tn (by omega), oK.2.2 k hk]
  refine ⟨vp_n (by omega) (by decide), ex1 ⟨_, loop (aN A) 0 (kH A k) j x g zs (by omega) rfl (Nat.le_refl _) hx fz_rfl ?_ ?_⟩⟩
  · rw [Nat.sub_self]; exact hg
  · rw [Nat.sub_self]; exact hQ
/-- which block a number falls into, and where in it -/
def blk (f : Nat → Nat) : Nat → Nat → Nat → Nat × Nat
  | 0, j, v => (j, v)
  | d + 1, j, v => if v < f j then (j, v) else blk f d (j + 1) (v - f j)
theorem blk_in {f : Nat → Nat} : ∀ {d j v : Nat}, v < sm (fun i => f (j + i)) (d + 1) → j ≤ (blk f d j v).1 ∧ (blk f d j v).1 ≤ j + d ∧ (blk f d j v).2 < f (blk f d j v).1
  | 0, j, v, h => by
    have h' : v < 0 + f (j + 0) := h
    exact ⟨Nat.le_refl _, Nat.le_refl _, by rw [Nat.zero_add] at h'; exact h'⟩
  | d + 1, j, v, h => by
    rw [sm_shift] at h
    have e : blk f (d + 1) j v = if v < f j then (j, v) else blk f d (j + 1) (v - f j) := rfl
    rw [e]
    by_cases c : v < f j
    · rw [if_pos c]; exact ⟨Nat.le_refl _, Nat.le_add_right _ _, c⟩
    · rw [if_neg c]
      have h2 : v - f j < sm (fun i => f (j + 1 + i)) (d + 1) := by
        have e2 : sm (fun i => f (j + 1 + i)) (d + 1) = sm (fun i => f (j + (i + 1))) (d + 1) := sm_congr (fun i _ => by rw [show j + 1 + i = j + (i + 1) by omega])
        rw [e2]
        have h' : v < f (j + 0) + sm (fun i => f (j + (i + 1))) (d + 1) := h
        rw [Nat.add_zero] at h'
        omega
      have := blk_in h2
      exact ⟨by omega, by omega, this.2.2⟩
def fB (A : Ab) (k r : Nat) : Nat → Nat := fun j => pas (kH A k) j * wy A (kN A - (k + 1)) (nxt (kC A k) r j)
def bk (A : Ab) (k r v : Nat) : Nat × Nat := blk (fB A k r) (tk A k r) 0 v
def tel (A : Ab) : Nat → Nat → Nat → Nat → Nat → (Nat → Nat) → (Nat → Nat)
  | 0, _, _, _, _, g => g
  | d + 1, k, r, v, b, g => tel A d (k + 1) (nxt (kC A k) r (bk A k r v).1) ((bk A k r v).2 % wy A (kN A - (k + 1)) (nxt (kC A k) r (bk A k r v).1)) (b + (bk A k r v).1) (sel A k (kH A k) (bk A k r v).1 ((bk A k r v).2 / wy A (kN A - (k + 1)) (nxt (kC A k) r (bk A k r v).1)) b g)
/-- the facts of one step -/
theorem bk_in {A : Ab} {k r v : Nat} (hk : k < kN A) (hv : v < wy A (kN A - k) r) : (bk A k r v).1 ≤ tk A k r ∧ (bk A k r v).2 < pas (kH A k) (bk A k r v).1 * wy A (kN A - (k + 1)) (nxt (kC A k) r (bk A k r v).1) := by
  rw [wy_s hk] at hv
  have h : v < sm (fun i => fB A k r (0 + i)) (tk A k r + 1) := by
    rw [show (fun i => fB A k r (0 + i)) = fB A k r from funext (fun i => by rw [Nat.zero_add])]; exact hv
  have := blk_in h
  rw [Nat.zero_add] at this
  exact ⟨this.2.1, this.2.2⟩
theorem bk_w {A : Ab} {k r v : Nat} (hk : k < kN A) (hv : v < wy A (kN A - k) r) : 0 < wy A (kN A - (k + 1)) (nxt (kC A k) r (bk A k r v).1) ∧ (bk A k r v).2 / wy A (kN A - (k + 1)) (nxt (kC A k) r (bk A k r v).1) < pas (kH A k) (bk A k r v).1 ∧ (bk A k r v).2 % wy A (kN A - (k + 1)) (nxt (kC A k) r (bk A k r v).1) < wy A (kN A - (k + 1)) (nxt (kC A k) r (bk A k r v).1) := by
  have h := (bk_in hk hv).2
  have hp : 0 < wy A (kN A - (k + 1)) (nxt (kC A k) r (bk A k r v).1) := by
    by_cases e : wy A (kN A - (k + 1)) (nxt (kC A k) r (bk A k r v).1) = 0
    · rw [e, Nat.mul_zero] at h; omega
    · omega
  exact ⟨hp, (Nat.div_lt_iff_lt_mul hp).mpr h, Nat.mod_lt _ hp⟩
theorem s_t51 {A : Ab} {k s b v0 : Nat} {z : St} {K : Int64 → Int32 → Int32 → Int32 → Int32 → St → Prop} {Q : St → Prop} (hW : WF A) (hk : k < kN A) (h1 : sT A k ≤ s) (h2 : s < sT A (k + 1)) (oK : OK A z) (hT : TAB A z) (hP : Pas (z.1 18)) (hv0 : v0 < 9000000000000000000)
    (hK : ∀ p, p < (GN A).1 → (GN A).2 p = nxt (kC A k) ((GN A).2 s) (bk A k ((GN A).2 s) v0).1 → K (jL (bk A k ((GN A).2 s) v0).2) (jI b) (jI k) (jI p) (jI (bk A k ((GN A).2 s) v0).1) z) :
    ∀ (d j v p : Nat), j + d = tk A k ((GN A).2 s) → v ≤ v0 → blk (fB A k ((GN A).2 s)) d j v = bk A k ((GN A).2 s) v0 → p < (GN A).1 → (GN A).2 p = nxt (kC A k) ((GN A).2 s) j → L_R_tell_51 K Q (d + 1) (jL v) (jI s) (jI b) (jI k) (jI p) (jI j) (jL (fB A k ((GN A).2 s) j)) z := by
  obtain ⟨hE, hA⟩ := hT
  obtain ⟨e9, e11, hlen, e17, e10, hL⟩ := hE
  obtain ⟨l11, ⟨i0, hi0, ei0, l12⟩, lnx⟩ := hL k s hk h1 h2
  have hvr := gn_vr hW (by omega) h1 h2
  have hs1 := sT_len (A := A) (k := k) (by omega)
  have h40 := kH_le hW.2.2.1 hk
  have hN := hW.1
  have h16 := hW.2.1
  have t8 := tk8 (k := k) (r := (GN A).2 s) hW
  have a14 : ∀ j i, j ≤ tk A k ((GN A).2 s) → i < (GN A).1 → (GN A).2 i = nxt (kC A k) ((GN A).2 s) j → z.2 14 i = jL (wy A (kN A - (k + 1)) (nxt (kC A k) ((GN A).2 s) j)) := by
    intro j i hj hi ei
    have hv' := vr_nxt hW hk hvr hj
    rw [← ei] at hv'
    have hl := gn_layer hW (k := k + 1) (by omega) hi hv'.1
    rw [hA (k + 1) i (Nat.zero_le _) (by omega) hl.1 hl.2, ei]
  have fb : ∀ j, j ≤ tk A k ((GN A).2 s) → fB A k ((GN A).2 s) j ≤ 76904685 * 76904685 := by
    intro j hj
    have hv' := vr_nxt hW hk hvr hj
    rw [show k + 1 = kN A - (kN A - (k + 1)) by omega] at hv'
    exact Nat.mul_le_mul (pas_le (by omega) (by omega)) (wy_lt hW (by omega) hv')
  intro d
  induction d with
  | zero =>
    intro j v p hj hv hb hp ep
    have hb' : (j, v) = bk A k ((GN A).2 s) v0 := hb
    refine ⟨vp_n (by omega) (by decide), fun _ => ?_, fun hn => absurd ?_ hn⟩
    · have := hK p hp (by rw [← hb']; exact ep)
      rw [← hb'] at this; exact this
    · rw [jI_tn (by omega), l11, jI_le (by omega) (by omega)]; omega
  | succ d ih =>
    intro j v p hj hv hb hp ep
    have hb' : (if v < fB A k ((GN A).2 s) j then (j, v) else blk (fB A k ((GN A).2 s)) d (j + 1) (v - fB A k ((GN A).2 s) j)) = bk A k ((GN A).2 s) v0 := hb
    have hfj := fb j (by omega)
    obtain ⟨p', hp', ep', e13⟩ := lnx j (by omega) p hp ep
    refine ⟨vp_n (by omega) (by decide), fun hn => absurd hn ?_, fun _ => ?_⟩
    · rw [jI_tn (by omega), l11, jI_le (by omega) (by omega)]; omega
    rw [jL_lt (by omega) (by omega)]
    refine ⟨fun hlt => ?_, fun hge => ex1 (ex1 ⟨vp_n (by omega) (by decide), ex1 ⟨vp_n (by omega) (by decide), ?_⟩⟩)⟩
    · rw [if_pos hlt] at hb'
      have := hK p hp (by rw [← hb']; exact ep)
      rw [← hb'] at this; exact this
    · rw [if_neg hge] at hb'
      rw [jI_s, jI_tn (n := p) (by omega), e13, jI_tn (n := k) (by omega), oK.2.2 k hk, jL_sub (by omega)]
      refine s_choose hP (by omega) (by omega) ⟨vp_n (by omega) (by decide), ex1 ?_⟩
      rw [jI_tn (by omega), a14 (j + 1) p' (by omega) hp' ep', jL_mul]
      exact ih (j + 1) (v - fB A k ((GN A).2 s) j) p' (by omega) (by omega) hb' hp' ep'
theorem tab_fr30 {A : Ab} {z z' : St} (hF : Fz S30 z z') (h : TAB A z) : TAB A z' := by
  obtain ⟨⟨e9, e11, hlen, e17, e10, hL⟩, hA⟩ := h
  refine ⟨⟨(hF 9 10 rfl).1.trans e9, (hF 9 11 rfl).1.trans e11, hlen, fun m hm => (hF 17 m rfl).1.trans (e17 m hm), fun i hi => (hF 10 i rfl).2.trans (e10 i hi), fun m s hm h1 h2 => ?_⟩, fun m i a1 a2 a3 a4 => (hF 14 i rfl).2.trans (hA m i a1 a2 a3 a4)⟩
  obtain ⟨l11, ⟨i0, hi0, ei0, l12⟩, lnx⟩ := hL m s hm h1 h2
  refine ⟨(hF 11 s rfl).1.trans l11, ⟨i0, hi0, ei0, (hF 12 s rfl).1.trans l12⟩, fun j hj i hi ei => ?_⟩
  obtain ⟨i', hi', ei', e13⟩ := lnx j hj i hi ei
  exact ⟨i', hi', ei', (hF 13 i rfl).1.trans e13⟩
theorem s_t12 {A : Ab} {zs : St} {Q : St → Prop} (hW : WF A) (oK : OK A zs) (oP : OP A zs) (hT : TAB A zs) (hP : Pas (zs.1 18)) :
    ∀ (d k s v b : Nat) (g : Nat → Nat) (z : St), k + d = kN A → sT A k ≤ s → s < sT A (k + 1) → v < wy A (kN A - k) ((GN A).2 s) → b = hd ((GN A).2 s) 12 → Fz S30 zs z → G30 b g z → (∀ z', Fz S30 zs z' → G30 (sZ A) (tel A d k ((GN A).2 s) v b g) z' → Q z') → L_R_tell_12 Q (d + 1) (jL v) (jI s) (jI b) (jI k) z := by
  intro d
  have h16 := hW.2.1
  induction d with
  | zero =>
    intro k s v b g z hk h1 h2 hv hb hz hg hQ
    have oKz : OK A z := ok_fr ⟨rfl, fun _ => rfl, fun _ => rfl⟩ hz oK
    have hk' : k = kN A := by omega
    subst hk'
    refine ⟨fun _ => hQ z hz ?_, fun hn => absurd ?_ hn⟩
    · rw [Nat.sub_self] at hv
      have hp : panB A ((GN A).2 s) 12 = true := by
        have hv' : v < if panB A ((GN A).2 s) 12 = true then 1 else 0 := hv
        by_cases e : panB A ((GN A).2 s) 12 = true
        · exact e
        · rw [if_neg e] at hv'; omega
      rw [← (panB_iff.mp hp).1, ← hb]; exact hg
    · rw [oKz.1]; exact Int32.le_refl _
  | succ d ih =>
    intro k s v b g z hk h1 h2 hv hb hz hg hQ
    have hkk : k < kN A := by omega
    have oKz : OK A z := ok_fr ⟨rfl, fun _ => rfl, fun _ => rfl⟩ hz oK
    have hTz := tab_fr30 hz hT
    have hlen := hTz.1.2.2.1
    have hs1 := sT_len (A := A) (k := k) (by omega)
    have hvr := gn_vr hW (by omega) h1 h2
    obtain ⟨l11, ⟨i0, hi0, ei0, l12⟩, lnx⟩ := hTz.1.2.2.2.2.2 k s hkk h1 h2
    have hvr' : VR A (kN A - (kN A - k)) ((GN A).2 s) := by rw [show kN A - (kN A - k) = k by omega]; exact hvr
    have hwl := wy_lt hW (n := kN A - k) (r := (GN A).2 s) (by omega) hvr'
    obtain ⟨bi1, bi2⟩ := bk_in hkk hv
    obtain ⟨w1, w2, w3⟩ := bk_w hkk hv
    have t8 := tk8 (k := k) (r := (GN A).2 s) hW
    have tl := tk_le.mp bi1
    have h40 := kH_le hW.2.2.1 hkk
    have hN := hW.1
    have vn := vr_nxt hW hkk hvr bi1
    have l0 := gn_layer hW (k := k + 1) (by omega) hi0 (by rw [ei0]; exact (vr_nxt hW hkk hvr (Nat.zero_le _)).1)
    refine ⟨fun hn => absurd hn ?_, fun _ => ⟨vp_n (by omega) (by decide), ex1 ?_⟩⟩
    · rw [oKz.1, jI_le (by omega) (by omega)]; omega
    rw [jI_tn (by omega), l12]
    refine ⟨vp_n (by omega) (by decide), ex1 ?_⟩
    have e14 : z.2 14 i0 = jL (fB A k ((GN A).2 s) 0) := by
      rw [hTz.2 (k + 1) i0 (Nat.zero_le _) (by omega) l0.1 l0.2, ei0]
      show _ = jL (pas (kH A k) 0 * _)
      rw [pas_0, Nat.one_mul]
    rw [jI_tn (by omega), e14]
    refine ⟨_, s_t51 (v0 := v) hW hkk h1 h2 oKz hTz (pas_fr (fun _ => rfl) hz hP) (by omega) (fun p hp ep => ?_) (tk A k ((GN A).2 s)) 0 v i0 (by omega) (Nat.le_refl _) rfl hi0 ei0⟩
    have lp := gn_layer hW (k := k + 1) (by omega) hp (by rw [ep]; exact vn.1)
    have e14p : z.2 14 p = jL (wy A (kN A - (k + 1)) (nxt (kC A k) ((GN A).2 s) (bk A k ((GN A).2 s) v).1)) := by
      rw [hTz.2 (k + 1) p (Nat.zero_le _) (by omega) lp.1 lp.2, ep]
    have vn' := vn
    rw [show k + 1 = kN A - (kN A - (k + 1)) by omega] at vn'
    have hwl2 := wy_lt hW (n := kN A - (k + 1)) (by omega) vn'
    have hbk2 : (bk A k ((GN A).2 s) v).2 ≤ 76904685 * 76904685 := Nat.le_trans (Nat.le_of_lt bi2) (Nat.mul_le_mul (pas_le (by omega) (by omega)) hwl2)
    have emax : mmaxL (1 : Int64) (z.2 14 p) = jL (wy A (kN A - (k + 1)) (nxt (kC A k) ((GN A).2 s) (bk A k ((GN A).2 s) v).1)) := by
      rw [e14p]
      unfold mmaxL
      rw [if_neg]
      rw [show (1 : Int64) = jL 1 from rfl, jL_lt (by omega) (by omega)]; omega
    have hb8 : b + (bk A k ((GN A).2 s) v).1 ≤ 8 := by
      have := hW.2.2.2.2.2.2.2
      have := hvr.2.2.1
      omega
    have fn := vr_fit1 (j := (bk A k ((GN A).2 s) v).1) hW hvr (by omega)
    unfold J_R_tell_131
    rw [jI_tn (by omega), emax]
    refine ⟨vp_n (by omega) (by decide), ex1 ⟨?_, ?_⟩⟩
    · rw [show (0 : Int64) = jL 0 from rfl, jL_eq (by omega) (by omega)]; omega
    generalize hw : wy A (kN A - (k + 1)) (nxt (kC A k) ((GN A).2 s) (bk A k ((GN A).2 s) v).1) = w at *
    generalize hbk : bk A k ((GN A).2 s) v = B at *
    rw [jL_div (by omega) (by omega)]
    refine s_tellKind hW hkk hb8 w2 oKz (op_fr ⟨rfl, fun _ => rfl⟩ hz oP) (pas_fr (fun _ => rfl) hz hP) hg (fun z' hz' hg' => ⟨?_, ex1 (ex1 (ex1 ?_))⟩)
    · rw [show (0 : Int64) = jL 0 from rfl, jL_eq (by omega) (by omega)]; omega
    have hml : B.2 / w * w ≤ B.2 := Nat.div_mul_le_self _ _
    rw [jL_mul, jL_sub hml, jI_add, jI_s, show B.2 - B.2 / w * w = B.2 % w by have := Nat.mod_add_div B.2 w; rw [Nat.mul_comm] at this; omega]
    refine ih (k + 1) p (B.2 % w) (b + B.1) _ z' (by omega) lp.1 lp.2 (by rw [ep, hw]; exact w3) (by rw [ep, n12_nxt fn, hb]) (fz_trans hz hz') hg' (fun z'' hz'' hg'' => hQ z'' hz'' ?_)
    show G30 (sZ A) (tel A d (k + 1) (nxt (kC A k) ((GN A).2 s) (bk A k ((GN A).2 s) v).1) ((bk A k ((GN A).2 s) v).2 % wy A (kN A - (k + 1)) (nxt (kC A k) ((GN A).2 s) (bk A k ((GN A).2 s) v).1)) (b + (bk A k ((GN A).2 s) v).1) (sel A k (kH A k) (bk A k ((GN A).2 s) v).1 ((bk A k ((GN A).2 s) v).2 / wy A (kN A - (k + 1)) (nxt (kC A k) ((GN A).2 s) (bk A k ((GN A).2 s) v).1)) b g)) z''
    rw [hbk, hw, ← ep]
    exact hg''
/-- the panel of a number, place by place -/
def tlA (A : Ab) (v : Nat) : Nat → Nat := tel A (kN A) 0 0 v 0 (fun _ => 0)
theorem s_tell {A : Ab} {v : Nat} {z : St} {Q : St → Prop} (hW : WF A) (oK : OK A z) (oP : OP A z) (hT : TAB A z) (hP : Pas (z.1 18)) (hv : v < cnA A) (hQ : ∀ z', Fz S30 z z' → G30 (sZ A) (tlA A v) z' → Q z') : P_R_tell (jL v) z Q := by
  have e0 : (GN A).2 0 = 0 := gn_0
  have h0 : hd 0 12 = 0 := by decide
  refine ⟨_, s_t12 (zs := z) hW oK oP hT hP (kN A) 0 0 v 0 (fun _ => 0) z (by omega) (Nat.zero_le _) (show 0 < 1 by decide) (by rw [e0]; exact hv) (by rw [e0, h0]) fz_rfl (fun i hi => absurd hi (Nat.not_lt_zero i)) (fun z' hz' hg => hQ z' hz' ?_)⟩
  rw [e0] at hg; exact hg
