/-! The pure side: the number of a panel, by the reference. -/
theorem sm_fup2 {f g : Nat → Nat} {x v : Nat} : ∀ {n : Nat}, x < n → (∀ i, i < n → i ≠ x → g i = f i) → g x = f x + v → sm g n = sm f n + v
  | 0, h, _, _ => absurd h (Nat.not_lt_zero x)
  | n + 1, h, h1, h2 => by
    show sm g n + g n = sm f n + f n + v
    by_cases e : x = n
    · subst e
      rw [sm_congr (g := f) (fun j hj => h1 j (by omega) (by omega)), h2]; omega
    · rw [sm_fup2 (n := n) (by omega) (fun i hi => h1 i (by omega)) h2, h1 n (by omega) (by omega)]; omega
/-- the sum of a weight over the marked -/
def ws (f : Nat → Nat) (μ : Nat → Bool) (w : Nat → Nat) : Nat → Nat
  | 0 => 0
  | n + 1 => ws f μ w n + if μ n = true then w (f n) else 0
theorem kc_inj {A : Ab} (hW : WF A) {i j : Nat} (hi : i < kN A) (hj : j < kN A) (e : kC A i = kC A j) : i = j := by
  rcases Nat.lt_trichotomy i j with h | h | h
  · have := hW.2.2.1.1 i j h hj; omega
  · exact h
  · have := hW.2.2.1.1 j i h hi; omega
theorem ws_kinds {A : Ab} (hW : WF A) (μ : Nat → Bool) (w : Nat → Nat) : ∀ n, n ≤ aN A → ws (aC A) μ w n = sm (fun k => cm (aC A) (kC A k) μ n * w (kC A k)) (kN A)
  | 0, _ => by
    show 0 = sm (fun k => 0 * w (kC A k)) (kN A)
    rw [sm_congr (g := fun _ => 0) (fun k _ => Nat.zero_mul _), sm_0]
  | n + 1, hn => by
    obtain ⟨k0, hk0, e0⟩ := hW.2.2.1.2.2 n (by omega)
    have ih := ws_kinds hW μ w n (by omega)
    show ws (aC A) μ w n + (if μ n = true then w (aC A n) else 0) = _
    rw [ih]
    symm
    refine sm_fup2 (x := k0) hk0 (fun k hkl hk => ?_) ?_
    · by_cases c : aC A n = kC A k ∧ μ n = true
      · exact absurd (kc_inj hW hkl hk0 (by rw [e0, c.1])) hk
      · rw [cm_out c]
    · show cm (aC A) (kC A k0) μ (n + 1) * w (kC A k0) = _
      by_cases c : μ n = true
      · rw [cm_in e0.symm c, if_pos c, Nat.add_mul, Nat.one_mul, e0]
      · rw [cm_out (fun h => c h.2), if_neg c]; rfl
def tri (c q : Nat) : Nat := (if q = q0 c then 1 else 0) + (if q = q1 c then 1 else 0) + (if q = q2 c then 1 else 0)
theorem tri_le (c q : Nat) : tri c q ≤ 1 := by
  have b0 := q0_lt c
  have b1 := q1_lt c
  have b2 := q2_lt c
  unfold tri
  by_cases e0 : q = q0 c
  · rw [if_pos e0, if_neg (by omega), if_neg (by omega)]; exact Nat.le_refl _
  · rw [if_neg e0]
    by_cases e1 : q = q1 c
    · rw [if_pos e1, if_neg (by omega)]; exact Nat.le_refl _
    · rw [if_neg e1]
      by_cases e2 : q = q2 c
      · rw [if_pos e2]; exact Nat.le_refl _
      · rw [if_neg e2]; exact Nat.zero_le _
theorem tri_1 {c q : Nat} (h : q = q0 c ∨ q = q1 c ∨ q = q2 c) : tri c q = 1 := by
  have := tri_le c q
  unfold tri at this ⊢
  rcases h with e | e | e
  · rw [if_pos e] at this ⊢; omega
  · rw [if_pos e] at this ⊢; omega
  · rw [if_pos e] at this ⊢; omega
theorem hd_ad {o c j q : Nat} (h0 : hd o (q0 c) + j < 16) (h1 : hd o (q1 c) + j < 16) (h2 : hd o (q2 c) + j < 16) : hd (o + j * ad c) q = hd o q + j * tri c q := by
  have b0 := q0_lt c
  have b1 := q1_lt c
  have b2 := q2_lt c
  have e : o + j * ad c = o + j * 16 ^ q0 c + j * 16 ^ q1 c + j * 16 ^ q2 c := by
    unfold ad; rw [Nat.mul_add, Nat.mul_add]; omega
  have f1 : hd (o + j * 16 ^ q0 c) (q1 c) + j < 16 := by rw [dig_add h0, if_neg (by omega)]; exact h1
  have f2 : hd (o + j * 16 ^ q0 c + j * 16 ^ q1 c) (q2 c) + j < 16 := by rw [dig_add f1, dig_add h0, if_neg (by omega), if_neg (by omega)]; exact h2
  rw [e, dig_add f2, dig_add f1, dig_add h0]
  unfold tri
  rw [Nat.mul_add, Nat.mul_add]
  have m : ∀ (P : Prop) [Decidable P], j * (if P then 1 else 0) = if P then j else 0 := by
    intro P _
    by_cases hp : P
    · rw [if_pos hp, if_pos hp, Nat.mul_one]
    · rw [if_neg hp, if_neg hp, Nat.mul_zero]
  rw [m, m, m]
  omega
def oA (A : Ab) (μ : Nat → Bool) (K : Nat) : Nat := sm (fun k => nk A μ k * ad (kC A k)) K
def nA (A : Ab) (μ : Nat → Bool) (K : Nat) : Nat := sm (fun k => nk A μ k) K
def dA (A : Ab) (μ : Nat → Bool) (q K : Nat) : Nat := sm (fun k => nk A μ k * tri (kC A k) q) K
theorem dA_le {A : Ab} {μ : Nat → Bool} {q K : Nat} : dA A μ q K ≤ nA A μ K :=
  sm_le (fun k _ => by have := Nat.mul_le_mul_left (nk A μ k) (tri_le (kC A k) q); rw [Nat.mul_one] at this; exact this)
theorem hd_o {A : Ab} {μ : Nat → Bool} : ∀ {K : Nat}, nA A μ K ≤ 15 → ∀ q, hd (oA A μ K) q = dA A μ q K
  | 0, _, q => by
    show hd 0 q = 0
    unfold hd; rw [Nat.zero_div]
  | K + 1, h, q => by
    have hs : nA A μ (K + 1) = nA A μ K + nk A μ K := rfl
    have ih := hd_o (A := A) (μ := μ) (K := K) (by omega)
    have d : ∀ q, dA A μ q K ≤ nA A μ K := fun q => dA_le
    show hd (oA A μ K + nk A μ K * ad (kC A K)) q = dA A μ q K + nk A μ K * tri (kC A K) q
    have d0 := d (q0 (kC A K))
    have d1 := d (q1 (kC A K))
    have d2 := d (q2 (kC A K))
    rw [hd_ad (by rw [ih]; omega) (by rw [ih]; omega) (by rw [ih]; omega), ih]
theorem sm_mono {f : Nat → Nat} {a b : Nat} (h : a ≤ b) : sm f a ≤ sm f b := by
  have := sm_more (f := f) (n := a) (d := b - a)
  rw [show a + (b - a) = b by omega] at this; exact this
def PanR (A : Ab) (o : Nat) : Prop := gB A (decide (al o = sZ A) && alB A o) (fun q => decide (lO A q ≤ hd o q)) 12 = true
theorem pv_fwd {A : Ab} {μ : Nat → Bool} (hW : WF A) : ∀ {d k r : Nat}, k + d = kN A → VR A k r → lo12 r = oA A μ k → hd r 12 = nA A μ k → PV A μ d k r → nA A μ (kN A) = sZ A ∧ PanR A (oA A μ (kN A))
  | 0, k, r, hk, hr, ho, hn, hp => by
    have hk' : k = kN A := by omega
    subst hk'
    have hp' : panB A r 12 = true := hp
    refine ⟨by rw [← hn]; exact (panB_iff.mp hp').1, ?_⟩
    unfold PanR
    rw [← ho, vr_pan hr]; exact hp'
  | d + 1, k, r, hk, hr, ho, hn, hp => by
    have hkk : k < kN A := by omega
    have hf := vr_fit1 (j := nk A μ k) hW hr (Nat.le_succ_of_le hp.1)
    refine pv_fwd hW (d := d) (k := k + 1) (by omega) (vr_nxt hW hkk hr hp.1) ?_ ?_ hp.2
    · rw [lo12_nxt hf, ho]; rfl
    · rw [n12_nxt hf, hn]; rfl
theorem pv_bwd {A : Ab} {μ : Nat → Bool} (hW : WF A) (hN : nA A μ (kN A) = sZ A) (hP : PanR A (oA A μ (kN A))) : ∀ {d k r : Nat}, k + d = kN A → VR A k r → lo12 r = oA A μ k → hd r 12 = nA A μ k → PV A μ d k r
  | 0, k, r, hk, hr, ho, hn => by
    have hk' : k = kN A := by omega
    subst hk'
    unfold PanR at hP
    rw [← ho, vr_pan hr] at hP
    exact hP
  | d + 1, k, r, hk, hr, ho, hn => by
    have hkk : k < kN A := by omega
    have i8 := hW.2.2.2.2.2.2.2
    have hd' := hd_o (A := A) (μ := μ) (K := kN A) (by omega)
    have n1 : nA A μ (k + 1) ≤ nA A μ (kN A) := sm_mono (by omega)
    have ns : nA A μ (k + 1) = nA A μ k + nk A μ k := rfl
    have hdk := hd_o (A := A) (μ := μ) (K := k) (by omega)
    have b0 := q0_lt (kC A k)
    have b1 := q1_lt (kC A k)
    have b2 := q2_lt (kC A k)
    have hal : alB A (oA A μ (kN A)) = true := by
      have := (gB_iff.mp hP).1
      rw [Bool.and_eq_true] at this; exact this.2
    have g : ∀ q, q < 12 → (q = q0 (kC A k) ∨ q = q1 (kC A k) ∨ q = q2 (kC A k)) → nk A μ k ≤ hI A q - hd r q := by
      intro q hq hc
      have e := qd (kC A k) q hq hc
      unfold alB at hal
      have h2 := (gB_iff.mp hal).2 q hq (by rw [e.1]; exact (kc_vs hW hkk).2 _ e.2)
      rw [decide_eq_true_iff, hd'] at h2
      have h3 : dA A μ q (k + 1) ≤ dA A μ q (kN A) := sm_mono (by omega)
      have h4 : dA A μ q (k + 1) = dA A μ q k + nk A μ k * tri (kC A k) q := rfl
      rw [tri_1 hc, Nat.mul_one] at h4
      have h5 : hd r q = dA A μ q k := by rw [← hd_lo12 hq, ho, hdk]
      omega
    have hle : nk A μ k ≤ tk A k r := tk_le.mpr ⟨nk_le hW hkk, by omega, g _ (by omega) (Or.inl rfl), g _ (by omega) (Or.inr (Or.inl rfl)), g _ (by omega) (Or.inr (Or.inr rfl))⟩
    have hf := vr_fit1 (j := nk A μ k) hW hr (Nat.le_succ_of_le hle)
    refine ⟨hle, pv_bwd hW hN hP (d := d) (k := k + 1) (by omega) (vr_nxt hW hkk hr hle) ?_ ?_⟩
    · rw [lo12_nxt hf, ho]; rfl
    · rw [n12_nxt hf, hn]; rfl
theorem pv_iff {A : Ab} {μ : Nat → Bool} (hW : WF A) : PV A μ (kN A) 0 0 ↔ nA A μ (kN A) = sZ A ∧ PanR A (oA A μ (kN A)) :=
  ⟨fun h => pv_fwd hW (by omega) (vr_0 hW) (show lo12 0 = 0 by decide) (show hd 0 12 = 0 by decide) h, fun h => pv_bwd hW h.1 h.2 (by omega) (vr_0 hW) (show lo12 0 = 0 by decide) (show hd 0 12 = 0 by decide)⟩
theorem ad_lt (c : Nat) : ad c ≤ 3 * 16 ^ 11 := by
  have b0 := q0_lt c
  have b1 := q1_lt c
  have b2 := q2_lt c
  unfold ad
  have p : ∀ q, q < 12 → 16 ^ q ≤ 16 ^ 11 := fun q hq => Nat.pow_le_pow_right (by decide) (by omega)
  have p0 := p (q0 c) (by omega)
  have p1 := p (q1 c) (by omega)
  have p2 := p (q2 c) (by omega)
  omega
theorem oA_lt {A : Ab} {μ : Nat → Bool} : ∀ K, oA A μ K ≤ nA A μ K * (3 * 16 ^ 11)
  | 0 => Nat.zero_le _
  | K + 1 => by
    have ih := oA_lt (A := A) (μ := μ) K
    have h := Nat.mul_le_mul_left (nk A μ K) (ad_lt (kC A K))
    show oA A μ K + nk A μ K * ad (kC A K) ≤ (nA A μ K + nk A μ K) * _
    rw [Nat.add_mul]
    exact Nat.add_le_add ih h
theorem m_kindOf {A : Ab} {p : Nat} {z : St} {Q : Int32 → St → Prop} (hW : WF A) (rK : RK A z) (rP : RP A z) (hp : p < aN A) (h : ∀ k, k < kN A → kC A k = aC A p → Q (jI k) z) : P_M_kindOf (jI p) z Q := by
  have h16 := hW.2.1
  have h40 := hW.1
  obtain ⟨k0, hk0, e0⟩ := hW.2.2.1.2.2 p hp
  have hc := (hW.2.2.2.1 p hp).1
  have loop : ∀ (d k : Nat), k + d = k0 → L_M_kindOf_2 Q (d + 1) (jI p) (jI k) z := by
    intro d
    induction d with
    | zero =>
      intro k hk
      have hk' : k = k0 := by omega
      subst hk'
      refine ⟨vp_n (by omega) (by decide), m_is (by omega) hc (fun t ht => rP.2 p hp t ht) ⟨fun _ => h k hk0 e0, fun hne => absurd ?_ hne⟩⟩
      rw [jI_tn (by omega), rK.2.1 k hk0, e0]
    | succ d ih =>
      intro k hk
      have hc2 := (hW.2.2.1.2.1 k (by omega)).1
      refine ⟨vp_n (by omega) (by decide), m_is (by omega) hc (fun t ht => rP.2 p hp t ht) ⟨fun he => ?_, fun _ => ex1 ?_⟩⟩
      · rw [jI_tn (by omega), rK.2.1 k (by omega), jI_eq (by omega) (by omega)] at he
        exact h k (by omega) he
      · rw [jI_s]; exact ih (k + 1) (by omega)
  exact ⟨_, loop k0 0 (by omega)⟩
def MR (A : Ab) (μ : Nat → Bool) (z : St) : Prop := ∀ p, p < aN A → z.1 33 p = bI (μ p)
theorem bI_0 {b : Bool} : bI b = 0 ↔ b = false := by cases b <;> decide
theorem m_index {A : Ab} {k : Nat} {μ : Nat → Bool} {z : St} {Q : Int64 → St → Prop} (hW : WF A) (hk : k < kN A) (rK : RK A z) (rP : RP A z) (hM : MR A μ z) (hn : nk A μ k ≤ 8) (h : Q (jL (ixA A μ k)) z) : P_M_index (jI k) (jI (nk A μ k)) z Q := by
  have h16 := hW.2.1
  have h40 := hW.1
  have hKk := hW.2.2.1.2.1 k hk
  have hkh := kH_le hW.2.2.1 hk
  have loop : ∀ (d p l n acc : Nat), p + d = aN A → l + cnt (aC A) (kC A k) p = kH A k → n ≤ 8 → Q (jL (ixn A k μ d l n acc)) z → L_M_index_11 Q (d + 1) (jI k) (jL acc) (jI n) (jI (cnt (aC A) (kC A k) p)) (jI p) z := by
    intro d
    induction d with
    | zero =>
      intro p l n acc hp hl hn hQ
      refine ⟨fun _ => hQ, fun hn => absurd ?_ hn⟩
      rw [rP.1, jI_le (by omega) (by omega)]; omega
    | succ d ih =>
      intro p l n acc hp hl hn hQ
      have hc := (hW.2.2.2.1 p (by omega)).1
      have hcl := cnt_le (aC A) (kC A k) p
      have ep : aN A - (d + 1) = p := by omega
      have hQ' : Q (jL (if n = 0 then acc else if aC A (aN A - (d + 1)) = kC A k then (if μ (aN A - (d + 1)) = true then ixn A k μ d (l - 1) (n - 1) acc else ixn A k μ d (l - 1) n (acc + pas (l - 1) (n - 1))) else ixn A k μ d l n acc)) z := hQ
      rw [ep] at hQ'
      refine ⟨fun h => absurd h ?_, fun _ => ⟨fun h0 => ?_, fun h0 => m_is (by omega) hc (fun t ht => rP.2 p (by omega) t ht) ⟨vp_n (by omega) (by decide), fun he => ⟨vp_n (by omega) (by decide), fun hb0 => ⟨vp_n (by omega) (by decide), ?_⟩, fun hb1 => ex1 (ex1 (ex1 ?_))⟩, fun hne => ex1 ?_⟩⟩⟩
      · rw [rP.1, jI_le (by omega) (by omega)]; omega
      · rw [show (0 : Int32) = jI 0 from rfl, jI_le (by omega) (by decide)] at h0
        rw [if_pos (by omega)] at hQ'; exact hQ'
      · rw [show (0 : Int32) = jI 0 from rfl, jI_le (by omega) (by decide)] at h0
        rw [if_neg (by omega)] at hQ'
        rw [jI_tn (by omega), rK.2.1 k hk, jI_eq (by omega) (by omega)] at he
        rw [jI_tn (by omega), hM p (by omega), bI_0] at hb0
        rw [if_pos he, hb0, if_neg (by decide)] at hQ'
        have h1 := cnt_at he
        have h2 := cnt_mono' (f := aC A) (c := kC A k) (a := p + 1) (b := aN A) (by omega)
        have h3 := hKk.2.1
        rw [jI_tn (by omega), rK.2.2 k hk, jI_sub (by omega), jI_p (by omega), jI_p (by omega), show kH A k - cnt (aC A) (kC A k) p - 1 = l - 1 by omega]
        refine m_choose (by omega) (by omega) (ex1 (ex1 (ex1 ?_)))
        rw [jL_add, jI_s, jI_s, ← h1]
        exact ih (p + 1) (l - 1) n _ (by omega) (by omega) hn hQ'
      · rw [show (0 : Int32) = jI 0 from rfl, jI_le (by omega) (by decide)] at h0
        rw [if_neg (by omega)] at hQ'
        rw [jI_tn (by omega), rK.2.1 k hk, jI_eq (by omega) (by omega)] at he
        rw [jI_tn (by omega), hM p (by omega), bI_0] at hb1
        have hb : μ p = true := by cases h : μ p with
          | false => exact absurd h hb1
          | true => rfl
        rw [if_pos he, if_pos hb] at hQ'
        have h1 := cnt_at he
        have h2 := cnt_mono' (f := aC A) (c := kC A k) (a := p + 1) (b := aN A) (by omega)
        have h3 := hKk.2.1
        rw [jI_p (by omega), jI_s, jI_s, ← h1]
        exact ih (p + 1) (l - 1) (n - 1) _ (by omega) (by omega) (by omega) hQ'
      · rw [show (0 : Int32) = jI 0 from rfl, jI_le (by omega) (by decide)] at h0
        rw [if_neg (by omega)] at hQ'
        rw [jI_tn (by omega), rK.2.1 k hk, jI_eq (by omega) (by omega)] at hne
        rw [if_neg hne] at hQ'
        rw [jI_s, ← cnt_off hne]
        exact ih (p + 1) l n acc (by omega) (by rw [cnt_off hne]; exact hl) hn hQ'
  exact ⟨_, loop (aN A) 0 (kH A k) _ 0 (by omega) rfl hn h⟩
