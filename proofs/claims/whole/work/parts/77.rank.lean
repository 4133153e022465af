/-! The pure side: the number of a panel. -/
theorem s_isIn {m p : Nat} {z : St} {Q : Int32 → St → Prop} (hm : m < 9223372036854775808) (hp : p < 64) (h : Q (bI (m.testBit p)) z) : P_O_isIn (jL m) (jI p) z Q := by
  refine ⟨fun e => ?_, fun e => ?_⟩
  · rw [isin hm hp] at e; rw [e] at h; exact h
  · rw [isin hm hp] at e
    cases hb : m.testBit p with
    | false => exact absurd hb e
    | true => rw [hb] at h; exact h
/-- how many of a code are marked -/
def cm (f : Nat → Nat) (c : Nat) (μ : Nat → Bool) : Nat → Nat
  | 0 => 0
  | n + 1 => cm f c μ n + if f n = c ∧ μ n = true then 1 else 0
theorem cm_le {f : Nat → Nat} {c : Nat} {μ : Nat → Bool} : ∀ n, cm f c μ n ≤ cnt f c n
  | 0 => Nat.le_refl _
  | n + 1 => by
    have := cm_le (f := f) (c := c) (μ := μ) n
    show cm f c μ n + (if f n = c ∧ μ n = true then 1 else 0) ≤ cnt f c n + (if f n = c then 1 else 0)
    by_cases e : f n = c
    · rw [if_pos e]
      by_cases e2 : f n = c ∧ μ n = true
      · rw [if_pos e2]; omega
      · rw [if_neg e2]; omega
    · rw [if_neg e, if_neg (fun h => e h.1)]; exact this
theorem cm_in {f : Nat → Nat} {c : Nat} {μ : Nat → Bool} {n : Nat} (h : f n = c) (h2 : μ n = true) : cm f c μ (n + 1) = cm f c μ n + 1 := by
  show cm f c μ n + (if f n = c ∧ μ n = true then 1 else 0) = _
  rw [if_pos ⟨h, h2⟩]
theorem cm_out {f : Nat → Nat} {c : Nat} {μ : Nat → Bool} {n : Nat} (h : ¬ (f n = c ∧ μ n = true)) : cm f c μ (n + 1) = cm f c μ n := by
  show cm f c μ n + (if f n = c ∧ μ n = true then 1 else 0) = _
  rw [if_neg h]; rfl
def nk (A : Ab) (μ : Nat → Bool) (k : Nat) : Nat := cm (aC A) (kC A k) μ (aN A)
theorem nk_le {A : Ab} {μ : Nat → Bool} (hW : WF A) {k : Nat} (hk : k < kN A) : nk A μ k ≤ kH A k := by
  rw [(hW.2.2.1.2.1 k hk).2.1]; exact cm_le _
theorem s_membersOf {A : Ab} {k m : Nat} {z : St} {Q : Int32 → St → Prop} (hW : WF A) (hk : k < kN A) (oK : OK A z) (oP : OP A z) (hm : m < 9223372036854775808) (h : Q (jI (nk A (fun p => m.testBit p) k)) z) : P_R_membersOf (jI k) (jL m) z Q := by
  have h16 := hW.2.1
  have h40 := hW.1
  have hKk := hW.2.2.1.2.1 k hk
  have loop : ∀ (d p : Nat), p + d = aN A → L_R_membersOf_6 Q (d + 1) (jI k) (jL m) (jI (cm (aC A) (kC A k) (fun p => m.testBit p) p)) (jI p) z := by
    intro d
    induction d with
    | zero =>
      intro p hp
      refine ⟨fun _ => ?_, fun hn => absurd ?_ hn⟩
      · rw [show p = aN A by omega]; exact h
      · rw [oP.1, jI_le (by omega) (by omega)]; omega
    | succ d ih =>
      intro p hp
      have hc := (hW.2.2.2.1 p (by omega)).1
      refine ⟨fun h => absurd h ?_, fun _ => ⟨vp_n (by omega) (by decide), vp_n (by omega) (by decide), ?_⟩⟩
      · rw [oP.1, jI_le (by omega) (by omega)]; omega
      rw [jI_tn (by omega), jI_tn (by omega), oP.2 p (by omega), oK.2.1 k hk, jI_eq (by omega) (by omega)]
      have ih' := ih (p + 1) (by omega)
      refine ⟨fun hne => ex1 ?_, fun he => s_isIn hm (by omega) ⟨fun h0 => ex1 ?_, fun h1 => ex1 (ex1 ?_)⟩⟩
      · rw [cm_out (fun h => hne h.1)] at ih'
        rw [jI_s]; exact ih'
      · cases hb : m.testBit p with
        | false =>
          rw [cm_out (fun h => by rw [hb] at h; exact absurd h.2 (by decide))] at ih'
          rw [jI_s]; exact ih'
        | true => rw [hb] at h0; exact absurd h0 (by decide)
      · cases hb : m.testBit p with
        | false => rw [hb] at h1; exact absurd rfl h1
        | true =>
          rw [cm_in he hb] at ih'
          rw [jI_s, jI_s]; exact ih'
  exact ⟨_, loop (aN A) 0 (by omega)⟩
/-- the number of a choice of a kind's persons: n still to come among the last l of the kind, d persons of the pool left -/
def ixn (A : Ab) (k : Nat) (μ : Nat → Bool) : Nat → Nat → Nat → Nat → Nat
  | 0, _, _, acc => acc
  | d + 1, l, n, acc => if n = 0 then acc else if aC A (aN A - (d + 1)) = kC A k then (if μ (aN A - (d + 1)) = true then ixn A k μ d (l - 1) (n - 1) acc else ixn A k μ d (l - 1) n (acc + pas (l - 1) (n - 1))) else ixn A k μ d l n acc
theorem ixn_le {A : Ab} {k : Nat} {μ : Nat → Bool} : ∀ {d l n acc : Nat}, l ≤ 40 → n ≤ 8 → ixn A k μ d l n acc ≤ acc + d * 76904685
  | 0, _, _, acc, _, _ => by show acc ≤ acc + 0 * _; omega
  | d + 1, l, n, acc, hl, hn => by
    show (if n = 0 then acc else if aC A (aN A - (d + 1)) = kC A k then (if μ (aN A - (d + 1)) = true then ixn A k μ d (l - 1) (n - 1) acc else ixn A k μ d (l - 1) n (acc + pas (l - 1) (n - 1))) else ixn A k μ d l n acc) ≤ _
    have hp := pas_le (n := l - 1) (k := n - 1) (by omega) (by omega)
    rw [Nat.add_mul, Nat.one_mul]
    by_cases e0 : n = 0
    · rw [if_pos e0]; omega
    · rw [if_neg e0]
      by_cases e1 : aC A (aN A - (d + 1)) = kC A k
      · rw [if_pos e1]
        by_cases e2 : μ (aN A - (d + 1)) = true
        · rw [if_pos e2]
          have := ixn_le (A := A) (k := k) (μ := μ) (d := d) (l := l - 1) (n := n - 1) (acc := acc) (by omega) (by omega)
          exact Nat.le_trans this (Nat.add_le_add_left (Nat.le_add_right _ _) _)
        · rw [if_neg e2]
          have := ixn_le (A := A) (k := k) (μ := μ) (d := d) (l := l - 1) (n := n) (acc := acc + pas (l - 1) (n - 1)) (by omega) (by omega); omega
      · rw [if_neg e1]
        have := ixn_le (A := A) (k := k) (μ := μ) (d := d) (l := l) (n := n) (acc := acc) (by omega) (by omega)
        exact Nat.le_trans this (Nat.add_le_add_left (Nat.le_add_right _ _) _)
def ixA (A : Ab) (μ : Nat → Bool) (k : Nat) : Nat := ixn A k μ (aN A) (kH A k) (nk A μ k) 0
theorem s_indexIn {A : Ab} {k m : Nat} {z : St} {Q : Int64 → St → Prop} (hW : WF A) (hk : k < kN A) (oK : OK A z) (oP : OP A z) (hP : Pas (z.1 18)) (hm : m < 9223372036854775808) (hn : nk A (fun p => m.testBit p) k ≤ 8) (h : Q (jL (ixA A (fun p => m.testBit p) k)) z) : P_R_indexIn (jI k) (jI (nk A (fun p => m.testBit p) k)) (jL m) z Q := by
  have h16 := hW.2.1
  have h40 := hW.1
  have hKk := hW.2.2.1.2.1 k hk
  have hkh := kH_le hW.2.2.1 hk
  have loop : ∀ (d p l n acc : Nat), p + d = aN A → l + cnt (aC A) (kC A k) p = kH A k → n ≤ 8 → Q (jL (ixn A k (fun p => m.testBit p) d l n acc)) z → L_R_indexIn_20 Q (d + 1) (jI k) (jL m) (jL acc) (jI l) (jI n) (jI p) z := by
    intro d
    induction d with
    | zero =>
      intro p l n acc hp hl hn hQ
      refine ⟨fun _ => hQ, fun hn => absurd ?_ hn⟩
      rw [oP.1, jI_le (by omega) (by omega)]; omega
    | succ d ih =>
      intro p l n acc hp hl hn hQ
      have hc := (hW.2.2.2.1 p (by omega)).1
      have ep : aN A - (d + 1) = p := by omega
      have hQ' : Q (jL (if n = 0 then acc else if aC A (aN A - (d + 1)) = kC A k then (if (m.testBit (aN A - (d + 1))) = true then ixn A k (fun p => m.testBit p) d (l - 1) (n - 1) acc else ixn A k (fun p => m.testBit p) d (l - 1) n (acc + pas (l - 1) (n - 1))) else ixn A k (fun p => m.testBit p) d l n acc)) z := hQ
      rw [ep] at hQ'
      refine ⟨fun h => absurd h ?_, fun _ => ⟨fun h0 => ?_, fun h0 => ⟨vp_n (by omega) (by decide), vp_n (by omega) (by decide), ?_⟩⟩⟩
      · rw [oP.1, jI_le (by omega) (by omega)]; omega
      · rw [show (0 : Int32) = jI 0 from rfl, jI_le (by omega) (by decide)] at h0
        rw [if_pos (by omega)] at hQ'; exact hQ'
      rw [show (0 : Int32) = jI 0 from rfl, jI_le (by omega) (by decide)] at h0
      rw [if_neg (by omega)] at hQ'
      rw [jI_tn (by omega), jI_tn (by omega), oP.2 p (by omega), oK.2.1 k hk, jI_eq (by omega) (by omega)]
      refine ⟨fun hne => ex1 ?_, fun he => ex1 (s_isIn hm (by omega) ⟨fun hb0 => ?_, fun hb1 => ex1 (ex1 ?_)⟩)⟩
      · rw [if_neg hne] at hQ'
        rw [jI_s]
        exact ih (p + 1) l n acc (by omega) (by rw [cnt_off hne]; exact hl) hn hQ'
      · rw [if_pos he] at hQ'
        have h1 := cnt_at he
        have h2 := cnt_mono' (f := aC A) (c := kC A k) (a := p + 1) (b := aN A) (by omega)
        have h3 := hKk.2.1
        rw [jI_p (by omega), jI_p (by omega)]
        refine s_choose hP (by omega) (by omega) (ex1 (ex1 ?_))
        rw [jL_add, jI_s]
        cases hb : m.testBit p with
        | true => rw [hb] at hb0; exact absurd hb0 (by decide)
        | false =>
          rw [hb, if_neg (by decide)] at hQ'
          exact ih (p + 1) (l - 1) n _ (by omega) (by omega) hn hQ'
      · rw [if_pos he] at hQ'
        have h1 := cnt_at he
        have h2 := cnt_mono' (f := aC A) (c := kC A k) (a := p + 1) (b := aN A) (by omega)
        have h3 := hKk.2.1
        rw [jI_p (by omega), jI_p (by omega), jI_s]
        cases hb : m.testBit p with
        | false => rw [hb] at hb1; exact absurd rfl hb1
        | true =>
          rw [hb, if_pos rfl] at hQ'
          exact ih (p + 1) (l - 1) (n - 1) _ (by omega) (by omega) (by omega) hQ'
  unfold P_R_indexIn
  rw [jI_tn (by omega), oK.2.2 k hk]
  exact ⟨vp_n (by omega) (by decide), ex1 ⟨_, loop (aN A) 0 (kH A k) _ 0 (by omega) rfl hn h⟩⟩
/-- the rank, kind by kind; and whether the marks are a panel -/
def rkA (A : Ab) (μ : Nat → Bool) : Nat → Nat → Nat → Nat → Nat
  | 0, _, _, acc => acc
  | d + 1, k, r, acc => rkA A μ d (k + 1) (nxt (kC A k) r (nk A μ k)) (acc + sm (fB A k r) (nk A μ k) + ixA A μ k * wy A (kN A - (k + 1)) (nxt (kC A k) r (nk A μ k)))
def PV (A : Ab) (μ : Nat → Bool) : Nat → Nat → Nat → Prop
  | 0, _, r => panB A r 12 = true
  | d + 1, k, r => nk A μ k ≤ tk A k r ∧ PV A μ d (k + 1) (nxt (kC A k) r (nk A μ k))
theorem s_rk63 {A : Ab} {k s m : Nat} {acc0 : Nat} {z : St} {K : Int64 → Int64 → Int32 → Int32 → Int32 → St → Prop} {Q : Int64 → St → Prop} (hW : WF A) (hk : k < kN A) (h1 : sT A k ≤ s) (h2 : s < sT A (k + 1)) (oK : OK A z) (hT : TAB A z) (hP : Pas (z.1 18)) (n : Nat) (hn : n ≤ tk A k ((GN A).2 s))
    (hK : ∀ p, p < (GN A).1 → (GN A).2 p = nxt (kC A k) ((GN A).2 s) n → K (jL m) (jL (acc0 + sm (fB A k ((GN A).2 s)) n)) (jI k) (jI n) (jI p) z) :
    ∀ (d j p : Nat), j + d = n → p < (GN A).1 → (GN A).2 p = nxt (kC A k) ((GN A).2 s) j → L_R_rankOf_63 K Q (d + 1) (jL m) (jL (acc0 + sm (fB A k ((GN A).2 s)) j)) (jI k) (jI n) (jI p) (jI j) z := by
  obtain ⟨hE, hA⟩ := hT
  obtain ⟨e9, e11, hlen, e17, e10, hL⟩ := hE
  obtain ⟨l11, _, lnx⟩ := hL k s hk h1 h2
  have hvr := gn_vr hW (by omega) h1 h2
  have h40 := kH_le hW.2.2.1 hk
  have hN := hW.1
  have h16 := hW.2.1
  have t8 := tk8 (k := k) (r := (GN A).2 s) hW
  intro d
  induction d with
  | zero =>
    intro j p hj hp ep
    refine ⟨fun _ => ?_, fun hn => absurd ?_ hn⟩
    · rw [show j = n by omega] at ep ⊢; exact hK p hp ep
    · rw [jI_le (by omega) (by omega)]; omega
  | succ d ih =>
    intro j p hj hp ep
    have hv' := vr_nxt hW hk hvr (j := j) (by omega)
    rw [← ep] at hv'
    have hl := gn_layer hW (k := k + 1) (by omega) hp hv'.1
    obtain ⟨p', hp', ep', e13⟩ := lnx j (by omega) p hp ep
    refine ⟨fun h => absurd h ?_, fun _ => ⟨vp_n (by omega) (by decide), ?_⟩⟩
    · rw [jI_le (by omega) (by omega)]; omega
    rw [jI_tn (by omega), oK.2.2 k hk]
    refine s_choose hP (by omega) (by omega) ⟨vp_n (by omega) (by decide), ex1 ⟨vp_n (by omega) (by decide), ex1 (ex1 ?_)⟩⟩
    rw [jI_tn (by omega), hA (k + 1) p (Nat.zero_le _) (by omega) hl.1 hl.2, ep, e13, jL_mul, jL_add, jI_s, Nat.add_assoc]
    exact ih (j + 1) p' (by omega) hp' ep'
theorem s_rankOf {A : Ab} {m : Nat} {z : St} {Q : Int64 → St → Prop} (hW : WF A) (oK : OK A z) (oP : OP A z) (hT : TAB A z) (hP : Pas (z.1 18)) (hm : m < 9223372036854775808)
    (good : PV A (fun p => m.testBit p) (kN A) 0 0 → rkA A (fun p => m.testBit p) (kN A) 0 0 0 < 9223372036854775808 → Q (jL (rkA A (fun p => m.testBit p) (kN A) 0 0 0)) z) (bad : ¬ PV A (fun p => m.testBit p) (kN A) 0 0 → Q (-1) z) : P_R_rankOf (jL m) z Q := by
  have h16 := hW.2.1
  have hN := hW.1
  have loop : ∀ (d k s acc : Nat), k + d = kN A → sT A k ≤ s → s < sT A (k + 1) → acc ≤ k * (48 * (76904685 * 76904685)) → (PV A (fun p => m.testBit p) d k ((GN A).2 s) → rkA A (fun p => m.testBit p) d k ((GN A).2 s) acc < 9223372036854775808 → Q (jL (rkA A (fun p => m.testBit p) d k ((GN A).2 s) acc)) z) → (¬ PV A (fun p => m.testBit p) d k ((GN A).2 s) → Q (-1) z) → L_R_rankOf_8 (fun (x19 : Int64) (x20 : Int32) (z21 : St) => vp_in x20 1001 ∧ (((z21.2 14 x20.toNatClampNeg) ≤ (0 : Int64)) → Q (-1 : Int64) z21) ∧ ((¬ (z21.2 14 x20.toNatClampNeg) ≤ (0 : Int64)) → Q x19 z21)) Q (d + 1) (jL m) (jL acc) (jI s) (jI k) z := by
    intro d
    induction d with
    | zero =>
      intro k s acc hk h1 h2 hacc good bad
      have hlen := hT.1.2.2.1
      have hk' : k = kN A := by omega
      subst hk'
      have l1 := sT_len (A := A) (k := kN A) (Nat.le_refl _)
      have e14 := hT.2 (kN A) s (Nat.zero_le _) (Nat.le_refl _) h1 h2
      rw [Nat.sub_self] at e14
      have hacc2 : acc < 9223372036854775808 := Nat.lt_of_le_of_lt (Nat.le_trans hacc (Nat.mul_le_mul_right _ h16)) (by decide)
      refine ⟨fun _ => ⟨vp_n (by omega) (by decide), ?_⟩, fun hn => absurd ?_ hn⟩
      · rw [jI_tn (by omega), e14]
        have ew : wy A 0 ((GN A).2 s) = if panB A ((GN A).2 s) 12 = true then 1 else 0 := rfl
        rw [ew]
        by_cases hp : panB A ((GN A).2 s) 12 = true
        · rw [if_pos hp]
          exact ⟨fun h => absurd h (by decide), fun _ => good hp hacc2⟩
        · rw [if_neg hp]
          exact ⟨fun _ => bad hp, fun h => absurd (by decide) h⟩
      · rw [oK.1]; exact Int32.le_refl _
    | succ d ih =>
      intro k s acc hk h1 h2 hacc good bad
      have hkk : k < kN A := by omega
      have hlen := hT.1.2.2.1
      have l1 := sT_len (A := A) (k := k) (by omega)
      have hvr := gn_vr hW (by omega) h1 h2
      have t8 := tk8 (k := k) (r := (GN A).2 s) hW
      obtain ⟨l11, ⟨i0, hi0, ei0, l12⟩, lnx⟩ := hT.1.2.2.2.2.2 k s hkk h1 h2
      have hkh := kH_le hW.2.2.1 hkk
      have hnk := nk_le (A := A) (μ := fun p => m.testBit p) hW hkk
      refine ⟨fun h => absurd h ?_, fun _ => s_membersOf hW hkk oK oP hm ⟨vp_n (by omega) (by decide), ?_⟩⟩
      · rw [oK.1, jI_le (by omega) (by omega)]; omega
      rw [jI_tn (by omega), l11, jI_le (by omega) (by omega)]
      refine ⟨fun hle => ⟨vp_n (by omega) (by decide), ex1 ?_⟩, fun hgt => bad (fun hp => hgt hp.1)⟩
      rw [l12]
      refine ⟨_, s_rk63 (acc0 := acc) hW hkk h1 h2 oK hT hP _ hle (fun p hp ep => ?_) _ 0 i0 (Nat.zero_add _) hi0 ei0⟩
      have vn := vr_nxt hW hkk hvr hle
      have lp := gn_layer hW (k := k + 1) (by omega) hp (by rw [ep]; exact vn.1)
      refine s_indexIn hW hkk oK oP hP hm (by omega) ⟨vp_n (by omega) (by decide), ex1 (ex1 ?_)⟩
      rw [jI_tn (by omega), hT.2 (k + 1) p (Nat.zero_le _) (by omega) lp.1 lp.2, ep, jL_mul, jL_add, jI_s]
      have vn' := vn
      rw [show k + 1 = kN A - (kN A - (k + 1)) by omega] at vn'
      have hwl := wy_lt hW (n := kN A - (k + 1)) (by omega) vn'
      have hix : ixA A (fun p => m.testBit p) k ≤ 40 * 76904685 := by
        have := ixn_le (A := A) (k := k) (μ := fun p => m.testBit p) (d := aN A) (l := kH A k) (n := nk A (fun p => m.testBit p) k) (acc := 0) (by omega) (by omega)
        have h2 : aN A * 76904685 ≤ 40 * 76904685 := Nat.mul_le_mul_right _ hN
        unfold ixA; omega
      have hsm : ∀ n, n ≤ tk A k ((GN A).2 s) → sm (fB A k ((GN A).2 s)) n ≤ n * (76904685 * 76904685) := by
        intro n
        induction n with
        | zero => exact fun _ => Nat.zero_le _
        | succ n ihn =>
          intro hn'
          have i1 := ihn (by omega)
          have hv2 := vr_nxt hW hkk hvr (j := n) (by omega)
          rw [show k + 1 = kN A - (kN A - (k + 1)) by omega] at hv2
          have i2 : fB A k ((GN A).2 s) n ≤ 76904685 * 76904685 := Nat.mul_le_mul (pas_le (by omega) (by omega)) (wy_lt hW (by omega) hv2)
          show sm (fB A k ((GN A).2 s)) n + fB A k ((GN A).2 s) n ≤ _
          rw [Nat.add_mul, Nat.one_mul]; omega
      have hs2 := hsm _ hle
      have hs3 : nk A (fun p => m.testBit p) k * (76904685 * 76904685) ≤ 8 * (76904685 * 76904685) := Nat.mul_le_mul_right _ (by omega)
      have hs4 : ixA A (fun p => m.testBit p) k * wy A (kN A - (k + 1)) (nxt (kC A k) ((GN A).2 s) (nk A (fun p => m.testBit p) k)) ≤ 40 * 76904685 * 76904685 := Nat.mul_le_mul hix hwl
      refine ih (k + 1) p _ (by omega) lp.1 lp.2 ?_ (fun hp' hl => ?_) (fun hp' => bad (fun hpv => hp' ?_))
      · rw [Nat.add_mul, Nat.one_mul]; omega
      · rw [ep] at hp' hl ⊢
        exact good ⟨hle, hp'⟩ hl
      · rw [ep]; exact hpv.2
  have e0 : (GN A).2 0 = 0 := gn_0
  have := loop (kN A) 0 0 0 (by omega) (Nat.zero_le _) (show 0 < 1 by decide) (Nat.zero_le _) (by rw [e0]; exact good) (by rw [e0]; exact bad)
  exact ⟨_, this⟩
