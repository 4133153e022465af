/-! The pure side: the panel of a number, by the reference. -/
theorem m_personOf {A : Ab} {k i : Nat} {z : St} {Q : Int32 → St → Prop} (hW : WF A) (hk : k < kN A) (rK : RK A z) (rP : RP A z) (hi : i < kH A k) (h : Q (jI (pkA A k i)) z) : P_M_personOf (jI k) (jI i) z Q := by
  have h16 := hW.2.1
  have h40 := hW.1
  have hKk := hW.2.2.1.2.1 k hk
  have loop : ∀ (d p : Nat), p + d = aN A → cnt (aC A) (kC A k) p ≤ i → L_M_personOf_5 Q (d + 1) (jI k) (jI (i - cnt (aC A) (kC A k) p)) (jI p) z := by
    intro d
    induction d with
    | zero =>
      intro p hp hc
      rw [show p = aN A by omega] at hc
      have := hKk.2.1
      omega
    | succ d ih =>
      intro p hp hc
      have hpp : p < aN A := by omega
      have hc64 := (hW.2.2.2.1 p hpp).1
      have hle := cnt_le (aC A) (kC A k) p
      have hkh := kH_le hW.2.2.1 hk
      have tj : ∀ {Q' : Int32 → St → Prop}, Q' (jI (aC A p)) z → P_M_is (jI p) z Q' := fun h => m_is (by omega) hc64 (fun t ht => rP.2 p hpp t ht) h
      have vk : vp_in (jI k) 17 := vp_n (by omega) (by decide)
      have e37 : z.1 37 (jI k).toNatClampNeg = jI (kC A k) := by rw [jI_tn (by omega)]; exact rK.2.1 k hk
      refine tj ⟨vk, fun hne => tj ⟨vk, fun _ => ex1 (ex1 ?_), fun he => absurd he hne⟩, fun he => ⟨fun h0 => ?_, fun h0 => tj ⟨vk, fun hne => absurd he hne, fun _ => ex1 (ex1 ?_)⟩⟩⟩
      · rw [e37, jI_eq (by omega) (by omega)] at hne
        rw [show (0 : Int32) = jI 0 from rfl, jI_sub (Nat.zero_le _), jI_s, Nat.sub_zero, ← cnt_off hne]
        exact ih (p + 1) (by omega) (by rw [cnt_off hne]; exact hc)
      · rw [e37, jI_eq (by omega) (by omega)] at he
        rw [show (0 : Int32) = jI 0 from rfl, jI_le (by omega) (by decide)] at h0
        rw [show i = cnt (aC A) (kC A k) p by omega, pkA_at he hpp] at h
        exact h
      · rw [e37, jI_eq (by omega) (by omega)] at he
        rw [show (0 : Int32) = jI 0 from rfl, jI_le (by omega) (by decide)] at h0
        rw [show (1 : Int32) = jI 1 from rfl, jI_sub (by omega), jI_add, show i - cnt (aC A) (kC A k) p - 1 = i - cnt (aC A) (kC A k) (p + 1) by rw [cnt_at he]; omega]
        exact ih (p + 1) (by omega) (by rw [cnt_at he]; omega)
  have := loop (aN A) 0 (by omega) (Nat.zero_le _)
  exact ⟨_, this⟩
abbrev S48 : Nat → Nat → Bool := fun c k => c == 48 || (c == 31 && k == 34)
def G48 (b : Nat) (g : Nat → Nat) (z : St) : Prop := (∀ i, i < b → z.1 48 i = jI (g i)) ∧ z.1 31 34 = jI b
theorem m_r14 {A : Ab} {k n b : Nat} {g : Nat → Nat} {z : St} {K : Int32 → Int64 → Int32 → Int32 → St → Prop} {Q : St → Prop} (hW : WF A) (hk : k < kN A) (hn : n ≤ 7) (rK : RK A z) :
    ∀ (l x : Nat), l ≤ kH A k → x < pas l (n + 1) → (∀ l' x', l' < kH A k → x' < pas l' n → sel A k l (n + 1) x b g = sel A k l' n x' (b + 1) (fup g b (pkA A k (kH A k - (l' + 1)))) → K (jI k) (jL x') (jI (kH A k - (l' + 1))) (jI (n + 1)) z) → L_M_rows_14 K Q (l + 1) (jI k) (jL x) (jI (kH A k - l)) (jI (n + 1)) z := by
  intro l
  have h16 := hW.2.1
  have h40 := hW.1
  have hkh := kH_le hW.2.2.1 hk
  induction l with
  | zero => exact fun x _ hx => absurd hx (Nat.not_lt_zero x)
  | succ l ih =>
    intro x hl hx hK
    have hpl := pas_le (n := l) (k := n) (by omega) (by omega)
    have hpl2 := pas_le (n := l + 1) (k := n + 1) (by omega) (by omega)
    have hsp : pas (l + 1) (n + 1) = pas l n + pas l (n + 1) := rfl
    have es : sel A k (l + 1) (n + 1) x b g = if x < pas l n then sel A k l n x (b + 1) (fup g b (pkA A k (kH A k - (l + 1)))) else sel A k l (n + 1) (x - pas l n) b g := rfl
    unfold L_M_rows_14
    rw [jI_tn (by omega), rK.2.2 k hk, jI_sub (by omega), jI_p (by omega), jI_p (by omega), show kH A k - (kH A k - (l + 1)) - 1 = l by omega, show n + 1 - 1 = n by omega]
    refine ⟨vp_n (by omega) (by decide), m_choose (by omega) (by omega) ?_⟩
    rw [jL_lt (by omega) (by omega)]
    refine ⟨fun hlt => ?_, fun hge => ⟨vp_n (by omega) (by decide), ?_⟩⟩
    · refine hK l x (by omega) hlt ?_
      rw [es, if_pos hlt]
    · rw [rK.2.2 k hk, jI_sub (by omega), jI_p (by omega), show kH A k - (kH A k - (l + 1)) - 1 = l by omega]
      refine m_choose (by omega) (by omega) (ex1 (ex1 ?_))
      rw [jL_sub (by omega), jI_s, show kH A k - (l + 1) + 1 = kH A k - l by omega]
      refine ih (x - pas l n) (by omega) (by omega) (fun l' x' h1 h2 h3 => hK l' x' h1 h2 ?_)
      rw [es, if_neg hge, h3]
theorem m_r9 {A : Ab} {k : Nat} {zs : St} {Q : St → Prop} (hW : WF A) (hk : k < kN A) (rK : RK A zs) (rP : RP A zs) :
    ∀ (n l x b : Nat) (g : Nat → Nat) (z : St), b + n ≤ 8 → l ≤ kH A k → x < pas l n → Fz S48 zs z → G48 b g z → (∀ z', Fz S48 zs z' → G48 (b + n) (sel A k l n x b g) z' → Q z') → L_M_rows_9 Q (n + 1) (jI k) (jL x) (jI (kH A k - l)) (jI n) z := by
  intro n
  have h16 := hW.2.1
  have h40 := hW.1
  have hkh := kH_le hW.2.2.1 hk
  induction n with
  | zero =>
    intro l x b g z hb hl hx hz hg hQ
    refine ⟨fun _ => hQ z hz ?_, fun hn => absurd (by decide) hn⟩
    rw [sel_0]; exact hg
  | succ n ih =>
    intro l x b g z hb hl hx hz hg hQ
    have rKz : RK A z := rk_fr ⟨rfl, fun _ => rfl, fun _ => rfl⟩ hz rK
    have rPz : RP A z := rp_fr ⟨rfl, fun _ => rfl⟩ hz rP
    refine ⟨fun h => absurd h ?_, fun _ => ⟨_, m_r14 (b := b) (g := g) hW hk (by omega) rKz l x hl hx (fun l' x' h1 h2 h3 => ?_)⟩⟩
    · rw [show (0 : Int32) = jI 0 from rfl, jI_le (by omega) (by decide)]; omega
    refine m_personOf hW hk rKz rPz (by omega) ?_
    rw [hg.2, jI_tn (by omega)]
    refine ⟨vp_n (by omega) (by decide), ex1 (ex1 (ex1 (ex1 ?_)))⟩
    rw [show (wI z 48 b (jI (pkA A k (kH A k - (l' + 1))))).1 31 34 = jI b from hg.2, jI_s, jI_s, jI_p (by omega), show kH A k - (l' + 1) + 1 = kH A k - l' by omega, show n + 1 - 1 = n by omega]
    refine ih l' x' (b + 1) (fup g b (pkA A k (kH A k - (l' + 1)))) _ (by omega) (by omega) h2 (fz_I (fz_I hz rfl) rfl) ⟨fun i hi => ?_, rfl⟩ (fun z' hz' hg' => hQ z' hz' ?_)
    · show (wI z 48 b (jI (pkA A k (kH A k - (l' + 1))))).1 48 i = _
      by_cases e : i = b
      · subst e; rw [zI_at, fup_at]
      · rw [zI_ne e, fup_ne e]; exact hg.1 i (by omega)
    · rw [h3, show b + (n + 1) = b + 1 + n by omega]; exact hg'
theorem rab_wy {A : Ab} {z : St} (hW : WF A) (h : RAB A z) {m i : Nat} (hm : m ≤ kN A) (h1 : sT A m ≤ i) (h2 : i < sT A (m + 1)) : z.2 41 i = jL (wy A (kN A - m) ((GN A).2 i)) := by
  rw [h.2 m i (Nat.zero_le _) hm h1 h2, wq_wy (by have := hW.2.1; omega) (by omega)]
theorem m_t42 {A : Ab} {k s v0 : Nat} {z : St} {K : Int64 → Int32 → Int32 → Int32 → St → Prop} {Q : St → Prop} (hW : WF A) (hk : k < kN A) (h1 : sT A k ≤ s) (h2 : s < sT A (k + 1)) (rK : RK A z) (hR : RAB A z) (hv0 : v0 < 9000000000000000000)
    (hK : ∀ p, sT A (k + 1) ≤ p → p < sT A (k + 2) → p < (GN A).1 → (GN A).2 p = nxt (kC A k) ((GN A).2 s) (bk A k ((GN A).2 s) v0).1 → K (jL (bk A k ((GN A).2 s) v0).2) (jI k) (jI (bk A k ((GN A).2 s) v0).1) (jI p) z) :
    ∀ (d j v p : Nat), j + d = tk A k ((GN A).2 s) → v ≤ v0 → v < sm (fun i => fB A k ((GN A).2 s) (j + i)) (d + 1) → blk (fB A k ((GN A).2 s)) d j v = bk A k ((GN A).2 s) v0 → sT A (k + 1) ≤ p → p < sT A (k + 2) → p < (GN A).1 → (GN A).2 p = nxt (kC A k) ((GN A).2 s) j → L_M_take_42 K Q (d + 1) (jL v) (jI s) (jI k) (jI j) (jI p) z := by
  have hlen := hR.1.1.2.2.2.1
  have hvr := gn_vr hW (by omega) h1 h2
  have hs1 := sT_len (A := A) (k := k) (by omega)
  have h40 := kH_le hW.2.2.1 hk
  have hN := hW.1
  have h16 := hW.2.1
  have t8 := tk8 (k := k) (r := (GN A).2 s) hW
  have fb : ∀ j, j ≤ tk A k ((GN A).2 s) → fB A k ((GN A).2 s) j ≤ 76904685 * 76904685 := by
    intro j hj
    have hv' := vr_nxt hW hk hvr hj
    rw [show k + 1 = kN A - (kN A - (k + 1)) by omega] at hv'
    exact Nat.mul_le_mul (pas_le (by omega) (by omega)) (wy_lt hW (by omega) hv')
  have prod : ∀ j p, sT A (k + 1) ≤ p → p < sT A (k + 2) → (GN A).2 p = nxt (kC A k) ((GN A).2 s) j → z.2 41 p * jL (pas (kH A k) j) = jL (fB A k ((GN A).2 s) j) := by
    intro j p c1 c2 ep
    rw [rab_wy hW hR (by omega) c1 c2, ep, jL_mul, Nat.mul_comm]; rfl
  intro d
  induction d with
  | zero =>
    intro j v p hj hv hs hb c1 c2 hp ep
    have hb' : (j, v) = bk A k ((GN A).2 s) v0 := hb
    have hs' : v < fB A k ((GN A).2 s) j := by
      have : v < 0 + fB A k ((GN A).2 s) (j + 0) := hs
      rw [Nat.zero_add] at this; exact this
    have hfj := fb j (by omega)
    have hk' := hK p c1 c2 hp (by rw [← hb']; exact ep)
    rw [← hb'] at hk'
    unfold L_M_take_42
    rw [jI_tn (n := k) (by omega), rK.2.2 k hk]
    refine ⟨vp_n (by omega) (by decide), vp_n (by omega) (by decide), m_choose (by omega) (by omega) ?_⟩
    rw [jI_tn (n := p) (by omega), prod j p c1 c2 ep, jL_lt (by omega) (by omega)]
    exact ⟨fun _ => hk', fun h => absurd hs' h⟩
  | succ d ih =>
    intro j v p hj hv hs hb c1 c2 hp ep
    have hb' : (if v < fB A k ((GN A).2 s) j then (j, v) else blk (fB A k ((GN A).2 s)) d (j + 1) (v - fB A k ((GN A).2 s) j)) = bk A k ((GN A).2 s) v0 := hb
    have hfj := fb j (by omega)
    unfold L_M_take_42
    rw [jI_tn (n := k) (by omega), rK.2.2 k hk]
    refine ⟨vp_n (by omega) (by decide), vp_n (by omega) (by decide), m_choose (by omega) (by omega) ?_⟩
    rw [jI_tn (n := p) (by omega), prod j p c1 c2 ep, jL_lt (by omega) (by omega)]
    refine ⟨fun hlt => ?_, fun hge => ⟨vp_n (by omega) (by decide), vp_n (by omega) (by decide), ?_⟩⟩
    · rw [if_pos hlt] at hb'
      have := hK p c1 c2 hp (by rw [← hb']; exact ep)
      rw [← hb'] at this; exact this
    · rw [if_neg hge] at hb'
      rw [rK.2.2 k hk]
      refine m_choose (by omega) (by omega) (ex1 (ex1 ⟨vp_n (by omega) (by decide), m_adds hW hk rK ?_⟩))
      rw [prod j p c1 c2 ep, jL_sub (by omega), jI_s, jI_s, jI_tn (n := s) (by omega), hR.1.1.2.2.2.2.1 s (by omega)]
      have tl := tk_le.mp (show j + 1 ≤ tk A k ((GN A).2 s) by omega)
      refine m_next hW hk h1 h2 hR.1 (by omega) (by omega) (fun _ i d1 d2 hi ei => ?_) (fun h => absurd (by omega) h)
      refine ih (j + 1) (v - fB A k ((GN A).2 s) j) i (by omega) (by omega) ?_ hb' d1 d2 hi ei
      rw [sm_shift] at hs
      have e2 : sm (fun i => fB A k ((GN A).2 s) (j + 1 + i)) (d + 1) = sm (fun i => fB A k ((GN A).2 s) (j + (i + 1))) (d + 1) := sm_congr (fun i _ => by rw [show j + 1 + i = j + (i + 1) by omega])
      rw [e2]
      have hs' : v < fB A k ((GN A).2 s) (j + 0) + sm (fun i => fB A k ((GN A).2 s) (j + (i + 1))) (d + 1) := hs
      rw [Nat.add_zero] at hs'
      omega
theorem rab_fr48 {A : Ab} {z z' : St} (hF : Fz S48 z z') (h : RAB A z) : RAB A z' :=
  ⟨ren_fr ⟨rfl, rfl, fun _ => rfl, fun _ => rfl, fun _ => rfl⟩ (fun _ => rfl) hF h.1, fun m i a1 a2 a3 a4 => (hF 41 i rfl).2.trans (h.2 m i a1 a2 a3 a4)⟩
theorem m_t13 {A : Ab} {zs : St} {Q : St → Prop} (hW : WF A) (rK : RK A zs) (rP : RP A zs) (hR : RAB A zs) :
    ∀ (d k s v b : Nat) (g : Nat → Nat) (z : St), k + d = kN A → sT A k ≤ s → s < sT A (k + 1) → v < wy A (kN A - k) ((GN A).2 s) → b = hd ((GN A).2 s) 12 → Fz S48 zs z → G48 b g z → (∀ z', Fz S48 zs z' → G48 (sZ A) (tel A d k ((GN A).2 s) v b g) z' → Q z') → L_M_take_13 Q (d + 1) (jL v) (jI s) (jI k) z := by
  intro d
  have h16 := hW.2.1
  induction d with
  | zero =>
    intro k s v b g z hk h1 h2 hv hb hz hg hQ
    have rKz : RK A z := rk_fr ⟨rfl, fun _ => rfl, fun _ => rfl⟩ hz rK
    have hk' : k = kN A := by omega
    subst hk'
    refine ⟨fun _ => hQ z hz ?_, fun hn => absurd ?_ hn⟩
    · rw [Nat.sub_self] at hv
      have hp : panB A ((GN A).2 s) 12 = true := by
        have hv' : v < if panB A ((GN A).2 s) 12 = true then 1 else 0 := hv
        by_cases e : panB A ((GN A).2 s) 12 = true
        · exact e
        · rw [if_neg e] at hv'; omega
      rw [← (panB_iff.mp hp).1, ← hb]; exact hg
    · rw [rKz.1]; exact Int32.le_refl _
  | succ d ih =>
    intro k s v b g z hk h1 h2 hv hb hz hg hQ
    have hkk : k < kN A := by omega
    have rKz : RK A z := rk_fr ⟨rfl, fun _ => rfl, fun _ => rfl⟩ hz rK
    have rPz : RP A z := rp_fr ⟨rfl, fun _ => rfl⟩ hz rP
    have hRz := rab_fr48 hz hR
    have hlen := hRz.1.1.2.2.2.1
    have hs1 := sT_len (A := A) (k := k) (by omega)
    have hvr := gn_vr hW (by omega) h1 h2
    have hvr' : VR A (kN A - (kN A - k)) ((GN A).2 s) := by rw [show kN A - (kN A - k) = k by omega]; exact hvr
    have hwl := wy_lt hW (n := kN A - k) (r := (GN A).2 s) (by omega) hvr'
    obtain ⟨bi1, bi2⟩ := bk_in hkk hv
    obtain ⟨w1, w2, w3⟩ := bk_w hkk hv
    have t8 := tk8 (k := k) (r := (GN A).2 s) hW
    have tl := tk_le.mp bi1
    have h40 := kH_le hW.2.2.1 hkk
    have hN := hW.1
    have vn := vr_nxt hW hkk hvr bi1
    refine ⟨fun hn => absurd hn ?_, fun _ => ⟨vp_n (by omega) (by decide), ?_⟩⟩
    · rw [rKz.1, jI_le (by omega) (by omega)]; omega
    have e0 : jL (lo12 ((GN A).2 s)) = jL (lo12 ((GN A).2 s)) + (jI 0).toInt64 * jL (ad (kC A k)) := by
      rw [jI_toL (by decide), jL_mul, jL_add, Nat.zero_mul]; rfl
    rw [jI_s, jI_tn (by omega), hRz.1.1.2.2.2.2.1 s (by omega), e0]
    refine m_next hW hkk h1 h2 hRz.1 (by omega) (by omega) (fun _ i0 d1 d2 hi0 ei0 => ?_) (fun h => absurd (Nat.zero_le _) h)
    have hv1 : v < sm (fun i => fB A k ((GN A).2 s) (0 + i)) (tk A k ((GN A).2 s) + 1) := by
      rw [show (fun i => fB A k ((GN A).2 s) (0 + i)) = fB A k ((GN A).2 s) from funext (fun i => by rw [Nat.zero_add])]
      have := hv; rw [wy_s hkk] at this; exact this
    refine ⟨_, m_t42 (v0 := v) hW hkk h1 h2 rKz hRz (by omega) (fun p c1 c2 hp ep => ?_) (tk A k ((GN A).2 s)) 0 v i0 (by omega) (Nat.le_refl _) hv1 rfl d1 d2 hi0 ei0⟩
    have e41 : z.2 41 p = jL (wy A (kN A - (k + 1)) (nxt (kC A k) ((GN A).2 s) (bk A k ((GN A).2 s) v).1)) := by
      rw [rab_wy hW hRz (m := k + 1) (by omega) c1 c2, ep]
    have vn' := vn
    rw [show k + 1 = kN A - (kN A - (k + 1)) by omega] at vn'
    have hwl2 := wy_lt hW (n := kN A - (k + 1)) (by omega) vn'
    have hbk2 : (bk A k ((GN A).2 s) v).2 ≤ 76904685 * 76904685 := Nat.le_trans (Nat.le_of_lt bi2) (Nat.mul_le_mul (pas_le (by omega) (by omega)) hwl2)
    have hb8 : b + (bk A k ((GN A).2 s) v).1 ≤ 8 := by
      have := hW.2.2.2.2.2.2.2
      have := hvr.2.2.1
      omega
    have fn := vr_fit1 (j := (bk A k ((GN A).2 s) v).1) hW hvr (by omega)
    have last : ∀ z', Fz S48 zs z' → G48 (sZ A) (tel A d (k + 1) (nxt (kC A k) ((GN A).2 s) (bk A k ((GN A).2 s) v).1) ((bk A k ((GN A).2 s) v).2 % wy A (kN A - (k + 1)) (nxt (kC A k) ((GN A).2 s) (bk A k ((GN A).2 s) v).1)) (b + (bk A k ((GN A).2 s) v).1) (sel A k (kH A k) (bk A k ((GN A).2 s) v).1 ((bk A k ((GN A).2 s) v).2 / wy A (kN A - (k + 1)) (nxt (kC A k) ((GN A).2 s) (bk A k ((GN A).2 s) v).1)) b g)) z' → Q z' := hQ
    generalize hw : wy A (kN A - (k + 1)) (nxt (kC A k) ((GN A).2 s) (bk A k ((GN A).2 s) v).1) = w at *
    generalize hbk : bk A k ((GN A).2 s) v = B at *
    have hmod : B.2 - B.2 / w * w = B.2 % w := by have := Nat.mod_add_div B.2 w; rw [Nat.mul_comm] at this; omega
    have hml : B.2 / w * w ≤ B.2 := Nat.div_mul_le_self _ _
    have wne : ¬ jL w = 0 := by rw [show (0 : Int64) = jL 0 from rfl, jL_eq (by omega) (by omega)]; omega
    have go : ∀ (x : Nat) (z' : St), x = B.2 % w → Fz S48 zs z' → G48 (b + B.1) (sel A k (kH A k) B.1 (B.2 / w) b g) z' → L_M_take_13 Q (d + 1) (jL x) (jI p) (jI (k + 1)) z' := by
      intro x z' hx hz' hg'
      subst hx
      refine ih (k + 1) p (B.2 % w) (b + B.1) _ z' (by omega) c1 c2 (by rw [ep, hw]; exact w3) (by rw [ep, n12_nxt fn, hb]) hz' hg' (fun z'' hz'' hg'' => last z'' hz'' ?_)
      rw [← ep]
      exact hg''
    refine ⟨fun h0 => ?_, fun h0 => ⟨vp_n (by omega) (by decide), ?_⟩⟩
    · have h0' := h0
      rw [show (0 : Int32) = jI 0 from rfl, jI_le (by omega) (by decide)] at h0'
      have B0 : B.1 = 0 := by omega
      have hlt : B.2 < w := by rw [B0, pas_0, Nat.one_mul] at bi2; exact bi2
      refine ⟨fun _ => ex1 ?_, fun h => absurd h0 h⟩
      rw [jI_s]
      refine go B.2 z (Nat.mod_eq_of_lt hlt).symm hz ?_
      rw [B0, sel_0]; exact hg
    · rw [jI_tn (by omega), e41]
      refine ⟨wne, ?_⟩
      rw [jL_div (by omega) (by omega)]
      have := m_r9 (Q := fun z22 => J_M_take_146 (L_M_take_13 Q (d + 1)) Q (jL B.2) (jI k) (jI B.1) (jI p) z22) (zs := z) hW hkk rKz rPz B.1 (kH A k) (B.2 / w) b g z hb8 (Nat.le_refl _) w2 fz_rfl hg (fun z' hz' hg' => ⟨fun h => absurd h h0, fun _ => ⟨vp_n (by omega) (by decide), ?_⟩⟩)
      · rw [Nat.sub_self] at this
        exact ⟨_, this⟩
      · rw [jI_tn (by omega), (hz' 41 p rfl).2, e41]
        refine ⟨wne, ex1 (ex1 ?_)⟩
        rw [jL_div (by omega) (by omega), jL_mul, jL_sub hml, jI_s]
        exact go _ z' hmod (fz_trans hz hz') hg'
theorem m_take {A : Ab} {v : Nat} {z : St} {Q : St → Prop} (hW : WF A) (rK : RK A z) (rP : RP A z) (hR : RAB A z) (hv : v < cnA A) (hQ : ∀ z', Fz S48 z z' → (∀ i, i < sZ A → z'.1 48 i = jI (tlA A v i)) → Q z') : P_M_take (jL v) z Q := by
  have e0 : (GN A).2 0 = 0 := gn_0
  have h0 : hd 0 12 = 0 := by decide
  have hz1 : Fz S48 z (wI z 31 34 0) := fz_I fz_rfl rfl
  refine ex1 ⟨_, m_t13 (zs := wI z 31 34 0) hW (rk_fr ⟨rfl, fun _ => rfl, fun _ => rfl⟩ hz1 rK) (rp_fr ⟨rfl, fun _ => rfl⟩ hz1 rP) (rab_fr48 hz1 hR) (kN A) 0 0 v 0 (fun _ => 0) _ (by omega) (Nat.zero_le _) (show 0 < 1 by decide) (by rw [e0]; exact hv) (by rw [e0, h0]) fz_rfl ⟨fun i hi => absurd hi (Nat.not_lt_zero i), rfl⟩ (fun z' hz' hg => hQ z' (fz_trans hz1 hz') ?_)⟩
  rw [e0] at hg; exact hg.1
