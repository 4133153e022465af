/-! The pure side: the states of an enumeration, apart from any cells. -/
def hd (r q : Nat) : Nat := r / 16 ^ q % 16
theorem p16 (q : Nat) : 0 < 16 ^ q := Nat.pow_pos (by decide)
theorem dig_lo {o p j q : Nat} (h : q < p) : hd (o + j * 16 ^ p) q = hd o q := by
  obtain ⟨e, rfl⟩ : ∃ e, p = q + 1 + e := ⟨p - q - 1, by omega⟩
  have h1 : j * 16 ^ (q + 1 + e) = (16 * (j * 16 ^ e)) * 16 ^ q := by
    rw [Nat.pow_add, Nat.pow_add]
    simp only [Nat.mul_comm, Nat.mul_left_comm, Nat.mul_assoc, Nat.pow_one]
  unfold hd
  rw [h1, Nat.add_mul_div_right _ _ (p16 q)]
  omega
theorem dig_at {o p j : Nat} (h : hd o p + j < 16) : hd (o + j * 16 ^ p) p = hd o p + j := by
  unfold hd at h ⊢
  rw [Nat.add_mul_div_right _ _ (p16 p)]
  omega
theorem dig_up {o p j q : Nat} (h : hd o p + j < 16) (hq : p < q) : (o + j * 16 ^ p) / 16 ^ q = o / 16 ^ q := by
  obtain ⟨e, rfl⟩ : ∃ e, q = p + 1 + e := ⟨q - p - 1, by omega⟩
  unfold hd at h
  rw [Nat.pow_add, Nat.pow_add, ← Nat.div_div_eq_div_mul, ← Nat.div_div_eq_div_mul, ← Nat.div_div_eq_div_mul, ← Nat.div_div_eq_div_mul, Nat.add_mul_div_right _ _ (p16 p)]
  congr 1
  rw [Nat.pow_one]
  omega
theorem dig_add {o p j q : Nat} (h : hd o p + j < 16) : hd (o + j * 16 ^ p) q = hd o q + if q = p then j else 0 := by
  rcases Nat.lt_trichotomy q p with e | e | e
  · rw [dig_lo e, if_neg (by omega)]; rfl
  · subst e; rw [dig_at h, if_pos rfl]
  · rw [if_neg (by omega)]
    show (o + j * 16 ^ p) / 16 ^ q % 16 = o / 16 ^ q % 16 + 0
    rw [dig_up h e]; rfl
theorem hd_lt (r q : Nat) : hd r q < 16 := Nat.mod_lt _ (by decide)
def al (r : Nat) : Nat := hd r 0 + hd r 1 + hd r 2 + hd r 3
def q0 (c : Nat) : Nat := dg c 0
def q1 (c : Nat) : Nat := 4 + dg c 1
def q2 (c : Nat) : Nat := 8 + dg c 2
theorem q0_lt (c : Nat) : q0 c < 4 := dg_lt c 0
theorem q1_lt (c : Nat) : 4 ≤ q1 c ∧ q1 c < 8 := ⟨Nat.le_add_right _ _, Nat.add_lt_add_left (dg_lt c 1) 4⟩
theorem q2_lt (c : Nat) : 8 ≤ q2 c ∧ q2 c < 12 := ⟨Nat.le_add_right _ _, Nat.add_lt_add_left (dg_lt c 2) 8⟩
/-- what one more person of a code adds -/
def ad (c : Nat) : Nat := 16 ^ q0 c + 16 ^ q1 c + 16 ^ q2 c
def nxt (c r j : Nat) : Nat := r + 16 ^ 13 + j * (16 ^ 12 + ad c)
theorem nxt_eq (c r j : Nat) : nxt c r j = (((r + 1 * 16 ^ 13) + j * 16 ^ 12) + j * 16 ^ q0 c) + j * 16 ^ q1 c + j * 16 ^ q2 c := by
  unfold nxt ad
  rw [Nat.mul_add, Nat.mul_add, Nat.mul_add, Nat.one_mul]
  omega
theorem nxt_0 (c r : Nat) : nxt c r 0 = r + 16 ^ 13 := by unfold nxt; rw [Nat.zero_mul]
theorem nxt_s (c r j : Nat) : nxt c r (j + 1) = nxt c r j + (16 ^ 12 + ad c) := by
  unfold nxt; rw [Nat.add_mul, Nat.one_mul]; omega
/-- the digits of the next row -/
def Fit (c r j : Nat) : Prop := hd r 12 + j < 16 ∧ hd r (q0 c) + j < 16 ∧ hd r (q1 c) + j < 16 ∧ hd r (q2 c) + j < 16
theorem hd_nxt {c r j q : Nat} (h : Fit c r j) (hq : q < 13) : hd (nxt c r j) q = hd r q + (if q = 12 then j else 0) + (if q = q0 c then j else 0) + (if q = q1 c then j else 0) + (if q = q2 c then j else 0) := by
  obtain ⟨h12, h0, h1, h2⟩ := h
  have b0 := q0_lt c
  have b1 := q1_lt c
  have b2 := q2_lt c
  have e13 : ∀ q, q < 13 → hd (r + 1 * 16 ^ 13) q = hd r q := fun q hq => dig_lo hq
  have f12 : hd (r + 1 * 16 ^ 13) 12 + j < 16 := by rw [e13 12 (by omega)]; exact h12
  have e12 : ∀ q, q < 13 → hd (r + 1 * 16 ^ 13 + j * 16 ^ 12) q = hd r q + if q = 12 then j else 0 := fun q hq => by rw [dig_add f12, e13 q hq]
  have f0 : hd (r + 1 * 16 ^ 13 + j * 16 ^ 12) (q0 c) + j < 16 := by rw [e12 _ (by omega), if_neg (by omega)]; exact h0
  have e0 : ∀ q, q < 13 → hd (r + 1 * 16 ^ 13 + j * 16 ^ 12 + j * 16 ^ q0 c) q = hd r q + (if q = 12 then j else 0) + if q = q0 c then j else 0 := fun q hq => by rw [dig_add f0, e12 q hq]
  have f1 : hd (r + 1 * 16 ^ 13 + j * 16 ^ 12 + j * 16 ^ q0 c) (q1 c) + j < 16 := by rw [e0 _ (by omega), if_neg (by omega), if_neg (by omega)]; exact h1
  have e1 : ∀ q, q < 13 → hd (r + 1 * 16 ^ 13 + j * 16 ^ 12 + j * 16 ^ q0 c + j * 16 ^ q1 c) q = hd r q + (if q = 12 then j else 0) + (if q = q0 c then j else 0) + if q = q1 c then j else 0 := fun q hq => by rw [dig_add f1, e0 q hq]
  have f2 : hd (r + 1 * 16 ^ 13 + j * 16 ^ 12 + j * 16 ^ q0 c + j * 16 ^ q1 c) (q2 c) + j < 16 := by rw [e1 _ (by omega), if_neg (by omega), if_neg (by omega), if_neg (by omega)]; exact h2
  rw [nxt_eq, dig_add f2, e1 q hq]
theorem hi_nxt {c r j : Nat} (h : Fit c r j) : nxt c r j / 16 ^ 13 = r / 16 ^ 13 + 1 := by
  have g := fun q hq => hd_nxt (q := q) h hq
  obtain ⟨h12, h0, h1, h2⟩ := h
  have b0 := q0_lt c
  have b1 := q1_lt c
  have b2 := q2_lt c
  have e13 : ∀ q, q < 13 → hd (r + 1 * 16 ^ 13) q = hd r q := fun q hq => dig_lo hq
  have f12 : hd (r + 1 * 16 ^ 13) 12 + j < 16 := by rw [e13 12 (by omega)]; exact h12
  have e12 : ∀ q, q < 13 → hd (r + 1 * 16 ^ 13 + j * 16 ^ 12) q = hd r q + if q = 12 then j else 0 := fun q hq => by rw [dig_add f12, e13 q hq]
  have f0 : hd (r + 1 * 16 ^ 13 + j * 16 ^ 12) (q0 c) + j < 16 := by rw [e12 _ (by omega), if_neg (by omega)]; exact h0
  have e0 : ∀ q, q < 13 → hd (r + 1 * 16 ^ 13 + j * 16 ^ 12 + j * 16 ^ q0 c) q = hd r q + (if q = 12 then j else 0) + if q = q0 c then j else 0 := fun q hq => by rw [dig_add f0, e12 q hq]
  have f1 : hd (r + 1 * 16 ^ 13 + j * 16 ^ 12 + j * 16 ^ q0 c) (q1 c) + j < 16 := by rw [e0 _ (by omega), if_neg (by omega), if_neg (by omega)]; exact h1
  have e1 : ∀ q, q < 13 → hd (r + 1 * 16 ^ 13 + j * 16 ^ 12 + j * 16 ^ q0 c + j * 16 ^ q1 c) q = hd r q + (if q = 12 then j else 0) + (if q = q0 c then j else 0) + if q = q1 c then j else 0 := fun q hq => by rw [dig_add f1, e0 q hq]
  have f2 : hd (r + 1 * 16 ^ 13 + j * 16 ^ 12 + j * 16 ^ q0 c + j * 16 ^ q1 c) (q2 c) + j < 16 := by rw [e1 _ (by omega), if_neg (by omega), if_neg (by omega), if_neg (by omega)]; exact h2
  rw [nxt_eq, dig_up f2 (by omega), dig_up f1 (by omega), dig_up f0 (by omega), dig_up f12 (by omega), Nat.add_mul_div_right _ _ (p16 13)]
/-- what the reference keeps of a row -/
def lo12 (r : Nat) : Nat := r % 16 ^ 12
theorem hd_lo12 {r q : Nat} (h : q < 12) : hd (lo12 r) q = hd r q := by
  have e : r = lo12 r + (r / 16 ^ 12) * 16 ^ 12 := by unfold lo12; have := Nat.mod_add_div r (16 ^ 12); rw [Nat.mul_comm]; exact this.symm
  rw [show hd r q = hd (lo12 r + (r / 16 ^ 12) * 16 ^ 12) q by rw [← e], dig_lo h]
theorem al_lo12 (r : Nat) : al (lo12 r) = al r := by
  unfold al; rw [hd_lo12 (by decide), hd_lo12 (by decide), hd_lo12 (by decide), hd_lo12 (by decide)]
theorem row_parts (r : Nat) : r = r / 16 ^ 13 * 16 ^ 13 + hd r 12 * 16 ^ 12 + lo12 r := by
  unfold hd lo12
  have h1 := Nat.mod_add_div r (16 ^ 12)
  have h2 := Nat.mod_add_div (r / 16 ^ 12) 16
  have h3 : r / 16 ^ 13 = r / 16 ^ 12 / 16 := by rw [Nat.div_div_eq_div_mul]
  rw [h3]
  generalize r / 16 ^ 12 = w at h1 h2 ⊢
  generalize r % 16 ^ 12 = u at h1 ⊢
  have e13 : (16 : Nat) ^ 13 = 16 * 16 ^ 12 := rfl
  rw [e13]
  generalize (16 : Nat) ^ 12 = X at h1 ⊢
  have h4 : w / 16 * (16 * X) = (16 * (w / 16)) * X := by rw [← Nat.mul_assoc, Nat.mul_comm (w / 16) 16]
  rw [h4, ← Nat.add_mul, Nat.add_comm (16 * (w / 16)), h2, Nat.mul_comm w X]
  omega
/-- how many of a kind a state can still take -/
def tk (A : Ab) (k r : Nat) : Nat := min (min (min (min (kH A k) (sZ A - hd r 12)) (hI A (q0 (kC A k)) - hd r (q0 (kC A k)))) (hI A (q1 (kC A k)) - hd r (q1 (kC A k)))) (hI A (q2 (kC A k)) - hd r (q2 (kC A k)))
/-- a row of layer k that keeps the quotas so far -/
def VR (A : Ab) (k r : Nat) : Prop := r / 16 ^ 13 = k ∧ hd r 12 = al r ∧ hd r 12 ≤ sZ A ∧ ∀ q, q < 12 → hd r q ≤ hI A q ∧ (vS A (q / 4) ≤ q % 4 → hd r q = 0)
theorem vr_le8 {A : Ab} {k r q : Nat} (hW : WF A) (h : VR A k r) (hq : q < 13) : hd r q ≤ 8 := by
  by_cases e : q = 12
  · subst e; have := hW.2.2.2.2.2.2.2; have := h.2.2.1; omega
  · have := (h.2.2.2 q (by omega)).1
    have := (hW.2.2.2.2.2.1 q (by omega)).2
    omega
theorem tk_le {A : Ab} {k r j : Nat} : j ≤ tk A k r ↔ j ≤ kH A k ∧ j ≤ sZ A - hd r 12 ∧ j ≤ hI A (q0 (kC A k)) - hd r (q0 (kC A k)) ∧ j ≤ hI A (q1 (kC A k)) - hd r (q1 (kC A k)) ∧ j ≤ hI A (q2 (kC A k)) - hd r (q2 (kC A k)) := by
  unfold tk
  rw [Nat.le_min, Nat.le_min, Nat.le_min, Nat.le_min]
  constructor
  · exact fun h => ⟨h.1.1.1.1, h.1.1.1.2, h.1.1.2, h.1.2, h.2⟩
  · exact fun h => ⟨⟨⟨⟨h.1, h.2.1⟩, h.2.2.1⟩, h.2.2.2.1⟩, h.2.2.2.2⟩
theorem vr_fit {A : Ab} {k r j : Nat} (hW : WF A) (h : VR A k r) (hj : j ≤ 7) : Fit (kC A k) r j := by
  have b0 := q0_lt (kC A k)
  have b1 := q1_lt (kC A k)
  have b2 := q2_lt (kC A k)
  have := vr_le8 hW h (q := 12) (by omega)
  have := vr_le8 hW h (q := q0 (kC A k)) (by omega)
  have := vr_le8 hW h (q := q1 (kC A k)) (by omega)
  have := vr_le8 hW h (q := q2 (kC A k)) (by omega)
  exact ⟨by omega, by omega, by omega, by omega⟩
/-- one more than a state can take still fits its digits -/
theorem vr_fit1 {A : Ab} {k r j : Nat} (hW : WF A) (h : VR A k r) (hj : j ≤ tk A k r + 1) : Fit (kC A k) r j := by
  have b0 := q0_lt (kC A k)
  have b1 := q1_lt (kC A k)
  have b2 := q2_lt (kC A k)
  have h12 := vr_le8 hW h (q := 12) (by omega)
  have h0 := vr_le8 hW h (q := q0 (kC A k)) (by omega)
  have h1 := vr_le8 hW h (q := q1 (kC A k)) (by omega)
  have h2 := vr_le8 hW h (q := q2 (kC A k)) (by omega)
  have i0 := (hW.2.2.2.2.2.1 (q0 (kC A k)) (by omega)).2
  have i1 := (hW.2.2.2.2.2.1 (q1 (kC A k)) (by omega)).2
  have i2 := (hW.2.2.2.2.2.1 (q2 (kC A k)) (by omega)).2
  have i8 := hW.2.2.2.2.2.2.2
  have t := tk_le.mp (Nat.le_refl (tk A k r))
  exact ⟨by omega, by omega, by omega, by omega⟩
theorem al_nxt {c r j : Nat} (h : Fit c r j) : al (nxt c r j) = al r + j := by
  have b0 := q0_lt c
  have b1 := q1_lt c
  have b2 := q2_lt c
  unfold al
  rw [hd_nxt h (by decide), hd_nxt h (by decide), hd_nxt h (by decide), hd_nxt h (by decide)]
  rw [if_neg (by omega : ¬ 0 = 12), if_neg (by omega : ¬ 0 = q1 c), if_neg (by omega : ¬ 0 = q2 c), if_neg (by omega : ¬ 1 = 12), if_neg (by omega : ¬ 1 = q1 c), if_neg (by omega : ¬ 1 = q2 c), if_neg (by omega : ¬ 2 = 12), if_neg (by omega : ¬ 2 = q1 c), if_neg (by omega : ¬ 2 = q2 c), if_neg (by omega : ¬ 3 = 12), if_neg (by omega : ¬ 3 = q1 c), if_neg (by omega : ¬ 3 = q2 c)]
  have : q0 c = 0 ∨ q0 c = 1 ∨ q0 c = 2 ∨ q0 c = 3 := by omega
  rcases this with e | e | e | e <;> rw [e] <;> simp <;> omega
theorem n12_nxt {c r j : Nat} (h : Fit c r j) : hd (nxt c r j) 12 = hd r 12 + j := by
  have b0 := q0_lt c
  have b1 := q1_lt c
  have b2 := q2_lt c
  rw [hd_nxt h (by decide), if_pos rfl, if_neg (by omega), if_neg (by omega), if_neg (by omega)]; rfl
/-- the codes of kinds are codes of persons -/
theorem kc_vs {A : Ab} (hW : WF A) {k : Nat} (hk : k < kN A) : kC A k < 64 ∧ ∀ t, t < 3 → dg (kC A k) t < vS A t := by
  have h1 := hW.2.2.1.2.1 k hk
  obtain ⟨p, hp, e⟩ := cnt_pos (f := aC A) (c := kC A k) (n := aN A) (by omega)
  rw [← e]; exact hW.2.2.2.1 p hp
theorem qd (c q : Nat) (hq : q < 12) (h : q = q0 c ∨ q = q1 c ∨ q = q2 c) : q % 4 = dg c (q / 4) ∧ q / 4 < 3 := by
  have d0 := dg_lt c 0
  have d1 := dg_lt c 1
  have d2 := dg_lt c 2
  unfold q0 q1 q2 at h
  refine ⟨?_, by omega⟩
  rcases h with h | h | h
  · rw [h, show dg c 0 / 4 = 0 by omega]; omega
  · rw [h, show (4 + dg c 1) / 4 = 1 by omega]; omega
  · rw [h, show (8 + dg c 2) / 4 = 2 by omega]; omega
theorem vr_nxt {A : Ab} {k r j : Nat} (hW : WF A) (hk : k < kN A) (h : VR A k r) (hj : j ≤ tk A k r) : VR A (k + 1) (nxt (kC A k) r j) := by
  have hf := vr_fit1 (j := j) hW h (by omega)
  have b0 := q0_lt (kC A k)
  have b1 := q1_lt (kC A k)
  have b2 := q2_lt (kC A k)
  have t := tk_le.mp hj
  have hs := h.2.2.1
  refine ⟨by rw [hi_nxt hf, h.1], by rw [n12_nxt hf, al_nxt hf, h.2.1], by rw [n12_nxt hf]; omega, fun q hq => ?_⟩
  have hh := h.2.2.2 q hq
  rw [hd_nxt hf (by omega), if_neg (by omega)]
  have g0 := h.2.2.2 (q0 (kC A k)) (by omega)
  have g1 := h.2.2.2 (q1 (kC A k)) (by omega)
  have g2 := h.2.2.2 (q2 (kC A k)) (by omega)
  by_cases e0 : q = q0 (kC A k)
  · have e := qd (kC A k) q hq (Or.inl e0)
    have hv := (kc_vs hW hk).2 _ e.2
    rw [if_pos e0, if_neg (by omega), if_neg (by omega)]
    refine ⟨by rw [e0]; omega, fun hv' => by omega⟩
  · by_cases e1 : q = q1 (kC A k)
    · have e := qd (kC A k) q hq (Or.inr (Or.inl e1))
      have hv := (kc_vs hW hk).2 _ e.2
      rw [if_neg e0, if_pos e1, if_neg (by omega)]
      refine ⟨by rw [e1]; omega, fun hv' => by omega⟩
    · by_cases e2 : q = q2 (kC A k)
      · have e := qd (kC A k) q hq (Or.inr (Or.inr e2))
        have hv := (kc_vs hW hk).2 _ e.2
        rw [if_neg e0, if_neg e1, if_pos e2]
        refine ⟨by rw [e2]; omega, fun hv' => by omega⟩
      · rw [if_neg e0, if_neg e1, if_neg e2]; exact hh
theorem vr_0 {A : Ab} (hW : WF A) : VR A 0 0 := by
  have e : ∀ q, hd 0 q = 0 := fun q => by unfold hd; rw [Nat.zero_div]
  refine ⟨Nat.zero_div _, by unfold al; rw [e, e, e, e, e], by rw [e]; omega, fun q hq => ⟨by rw [e]; omega, fun _ => e q⟩⟩
theorem vr_eq {A : Ab} {k r r' : Nat} (h : VR A k r) (h' : VR A k r') (e : lo12 r = lo12 r') : r = r' := by
  have e2 : hd r 12 = hd r' 12 := by rw [h.2.1, h'.2.1, ← al_lo12 r, ← al_lo12 r', e]
  rw [row_parts r, row_parts r', h.1, h'.1, e, e2]
theorem vr_lt {A : Ab} {k r : Nat} (hk : k ≤ 16) (h : VR A k r) : r < 17 * 16 ^ 13 := by
  have h1 := h.1
  have h2 := Nat.lt_mul_div_succ r (p16 13)
  rw [h1] at h2
  refine Nat.lt_of_lt_of_le h2 ?_
  rw [Nat.mul_comm]
  exact Nat.mul_le_mul_right _ (by omega)
