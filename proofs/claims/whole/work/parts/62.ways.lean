/-! The pure side: Pascal's numbers, sums, and how many ways lead on from a state. -/
theorem pas_id : ∀ n k : Nat, pas (n + 1) (k + 1) * (k + 1) = pas n k * (n + 1)
  | 0, 0 => rfl
  | 0, k + 1 => by
    show (0 + 0) * (k + 1 + 1) = 0 * (0 + 1)
    omega
  | n + 1, 0 => by
    have h := pas_id n 0
    have e : pas (n + 1 + 1) (0 + 1) = pas (n + 1) 0 + pas (n + 1) (0 + 1) := rfl
    rw [e, Nat.add_mul, h, pas_0, pas_0]
    omega
  | n + 1, k + 1 => by
    have h1 := pas_id n k
    have h2 := pas_id n (k + 1)
    have e : pas (n + 1 + 1) (k + 1 + 1) = pas (n + 1) (k + 1) + pas (n + 1) (k + 1 + 1) := rfl
    have e2 : pas (n + 1) (k + 1) = pas n k + pas n (k + 1) := rfl
    rw [e, Nat.add_mul, h2, Nat.mul_add (pas (n + 1) (k + 1)) (k + 1) 1, h1, Nat.mul_one, Nat.mul_add (pas (n + 1) (k + 1)) (n + 1) 1, Nat.mul_one]
    have e3 : pas (n + 1) (k + 1) * (n + 1) = pas n k * (n + 1) + pas n (k + 1) * (n + 1) := by rw [e2, Nat.add_mul]
    rw [e3]
    omega
theorem pas_mul {n k : Nat} (h : k ≤ n) : pas n (k + 1) * (k + 1) = pas n k * (n - k) := by
  have h1 := pas_id n k
  have e2 : pas (n + 1) (k + 1) = pas n k + pas n (k + 1) := rfl
  rw [e2, Nat.add_mul] at h1
  obtain ⟨d, rfl⟩ : ∃ d, n = k + d := ⟨n - k, by omega⟩
  rw [show k + d - k = d by omega]
  have e3 : pas (k + d) k * (k + d + 1) = pas (k + d) k * (k + 1) + pas (k + d) k * d := by rw [show k + d + 1 = (k + 1) + d by omega, Nat.mul_add]
  omega
theorem pas_le1 (n k : Nat) : pas n k ≤ pas (n + 1) k := by
  cases k with
  | zero => rw [pas_0, pas_0]; exact Nat.le_refl _
  | succ k => exact Nat.le_add_left _ _
theorem pas_mono {k : Nat} : ∀ {d n : Nat}, pas n k ≤ pas (n + d) k
  | 0, _ => Nat.le_refl _
  | d + 1, n => Nat.le_trans (pas_mono (d := d)) (pas_le1 _ _)
theorem pas_40 : ∀ k, k ≤ 8 → pas 40 k ≤ 76904685 := by
  have e0 : pas 40 0 = 1 := pas_0 40
  have h1 : pas 40 1 * 1 = pas 40 0 * 40 := pas_mul (n := 40) (k := 0) (by decide)
  have e1 : pas 40 1 = 40 := by omega
  have h2 : pas 40 2 * 2 = pas 40 1 * 39 := pas_mul (n := 40) (k := 1) (by decide)
  have e2 : pas 40 2 = 780 := by omega
  have h3 : pas 40 3 * 3 = pas 40 2 * 38 := pas_mul (n := 40) (k := 2) (by decide)
  have e3 : pas 40 3 = 9880 := by omega
  have h4 : pas 40 4 * 4 = pas 40 3 * 37 := pas_mul (n := 40) (k := 3) (by decide)
  have e4 : pas 40 4 = 91390 := by omega
  have h5 : pas 40 5 * 5 = pas 40 4 * 36 := pas_mul (n := 40) (k := 4) (by decide)
  have e5 : pas 40 5 = 658008 := by omega
  have h6 : pas 40 6 * 6 = pas 40 5 * 35 := pas_mul (n := 40) (k := 5) (by decide)
  have e6 : pas 40 6 = 3838380 := by omega
  have h7 : pas 40 7 * 7 = pas 40 6 * 34 := pas_mul (n := 40) (k := 6) (by decide)
  have e7 : pas 40 7 = 18643560 := by omega
  have h8 : pas 40 8 * 8 = pas 40 7 * 33 := pas_mul (n := 40) (k := 7) (by decide)
  have e8 : pas 40 8 = 76904685 := by omega
  intro k hk
  have hc : k = 0 ∨ k = 1 ∨ k = 2 ∨ k = 3 ∨ k = 4 ∨ k = 5 ∨ k = 6 ∨ k = 7 ∨ k = 8 := by omega
  rcases hc with e | e | e | e | e | e | e | e | e <;> subst e <;> omega
theorem pas_le {n k : Nat} (hn : n ≤ 40) (hk : k ≤ 8) : pas n k ≤ 76904685 := by
  have h := pas_mono (k := k) (n := n) (d := 40 - n)
  rw [show n + (40 - n) = 40 by omega] at h
  exact Nat.le_trans h (pas_40 k hk)
def sm (f : Nat → Nat) : Nat → Nat
  | 0 => 0
  | n + 1 => sm f n + f n
theorem sm_shift (f : Nat → Nat) : ∀ n, sm f (n + 1) = f 0 + sm (fun j => f (j + 1)) n
  | 0 => by show 0 + f 0 = f 0 + 0; omega
  | n + 1 => by
    show sm f (n + 1) + f (n + 1) = f 0 + (sm (fun j => f (j + 1)) n + f (n + 1))
    rw [sm_shift f n]; omega
theorem sm_le {f g : Nat → Nat} : ∀ {n : Nat}, (∀ j, j < n → f j ≤ g j) → sm f n ≤ sm g n
  | 0, _ => Nat.le_refl _
  | n + 1, h => Nat.add_le_add (sm_le (fun j hj => h j (by omega))) (h n (by omega))
theorem sm_congr {f g : Nat → Nat} : ∀ {n : Nat}, (∀ j, j < n → f j = g j) → sm f n = sm g n
  | 0, _ => rfl
  | n + 1, h => by
    show sm f n + f n = sm g n + g n
    rw [sm_congr (fun j hj => h j (by omega)), h n (by omega)]
theorem sm_add (f g : Nat → Nat) : ∀ n, sm (fun j => f j + g j) n = sm f n + sm g n
  | 0 => rfl
  | n + 1 => by
    show sm (fun j => f j + g j) n + (f n + g n) = sm f n + f n + (sm g n + g n)
    rw [sm_add f g n]; omega
theorem sm_more {f : Nat → Nat} {n : Nat} : ∀ {d : Nat}, sm f n ≤ sm f (n + d)
  | 0 => Nat.le_refl _
  | d + 1 => Nat.le_trans (sm_more (d := d)) (Nat.le_add_right _ _)
theorem sm_0 : ∀ n, sm (fun _ => 0) n = 0
  | 0 => rfl
  | n + 1 => by show sm (fun _ => 0) n + 0 = 0; rw [sm_0 n]
theorem vander (b : Nat) : ∀ a m : Nat, sm (fun j => pas a j * pas b (m - j)) (m + 1) = pas (a + b) m
  | 0, m => by
    rw [sm_shift, Nat.zero_add, pas_0, sm_congr (g := fun _ => 0) (fun j _ => by show 0 * _ = 0; rw [Nat.zero_mul]), sm_0]
    rw [Nat.one_mul]; rfl
  | a + 1, 0 => by
    show 0 + pas (a + 1) 0 * pas b 0 = _
    rw [pas_0, pas_0, pas_0]
  | a + 1, m + 1 => by
    have h1 := vander b a m
    have h2 := vander b a (m + 1)
    rw [sm_shift] at h2 ⊢
    rw [show a + 1 + b = a + b + 1 by omega]
    show _ = pas (a + b) m + pas (a + b) (m + 1)
    rw [← h1, ← h2, pas_0, pas_0]
    have e : sm (fun j => pas (a + 1) (j + 1) * pas b (m + 1 - (j + 1))) (m + 1) = sm (fun j => pas a j * pas b (m - j)) (m + 1) + sm (fun j => pas a (j + 1) * pas b (m + 1 - (j + 1))) (m + 1) := by
      rw [← sm_add]
      refine sm_congr (fun j _ => ?_)
      rw [show m + 1 - (j + 1) = m - j by omega]
      show (pas a j + pas a (j + 1)) * _ = _
      rw [Nat.add_mul]
    rw [e]; omega
/-- a row is a panel: as many as asked for, and no quota is missed -/
def panB (A : Ab) (r : Nat) : Nat → Bool
  | 0 => decide (hd r 12 = sZ A)
  | n + 1 => panB A r n && (decide (vS A (n / 4) ≤ n % 4) || decide (lO A n ≤ hd r n))
def Pan (A : Ab) (r : Nat) : Prop := hd r 12 = sZ A ∧ ∀ q, q < 12 → q % 4 < vS A (q / 4) → lO A q ≤ hd r q
theorem panB_iff {A : Ab} {r : Nat} : ∀ {n : Nat}, panB A r n = true ↔ hd r 12 = sZ A ∧ ∀ q, q < n → q % 4 < vS A (q / 4) → lO A q ≤ hd r q
  | 0 => by
    show decide (hd r 12 = sZ A) = true ↔ _
    rw [decide_eq_true_iff]
    exact ⟨fun h => ⟨h, fun q hq => absurd hq (Nat.not_lt_zero q)⟩, fun h => h.1⟩
  | n + 1 => by
    show (panB A r n && (decide (vS A (n / 4) ≤ n % 4) || decide (lO A n ≤ hd r n))) = true ↔ _
    rw [Bool.and_eq_true, panB_iff, Bool.or_eq_true, decide_eq_true_iff, decide_eq_true_iff]
    constructor
    · rintro ⟨⟨h1, h2⟩, h3⟩
      refine ⟨h1, fun q hq hv => ?_⟩
      by_cases e : q = n
      · subst e
        rcases h3 with h3 | h3
        · omega
        · exact h3
      · exact h2 q (by omega) hv
    · rintro ⟨h1, h2⟩
      refine ⟨⟨h1, fun q hq hv => h2 q (by omega) hv⟩, ?_⟩
      by_cases e : vS A (n / 4) ≤ n % 4
      · exact Or.inl e
      · exact Or.inr (h2 n (by omega) (by omega))
/-- how many ways lead on to a panel: with n kinds still to come -/
def wy (A : Ab) : Nat → Nat → Nat
  | 0, r => if panB A r 12 = true then 1 else 0
  | n + 1, r => sm (fun j => pas (kH A (kN A - (n + 1))) j * wy A n (nxt (kC A (kN A - (n + 1))) r j)) (tk A (kN A - (n + 1)) r + 1)
def rs (A : Ab) : Nat → Nat
  | 0 => 0
  | n + 1 => kH A (kN A - (n + 1)) + rs A n
theorem wy_le {A : Ab} (hW : WF A) : ∀ {n r : Nat}, n ≤ kN A → VR A (kN A - n) r → wy A n r ≤ pas (rs A n) (sZ A - hd r 12)
  | 0, r, _, hv => by
    show (if panB A r 12 = true then 1 else 0) ≤ pas 0 (sZ A - hd r 12)
    by_cases e : panB A r 12 = true
    · rw [if_pos e, (panB_iff.mp e).1, Nat.sub_self]; exact Nat.le_refl _
    · rw [if_neg e]; exact Nat.zero_le _
  | n + 1, r, hn, hv => by
    have hk : kN A - (n + 1) < kN A := by omega
    have ht := (tk_le.mp (Nat.le_refl (tk A (kN A - (n + 1)) r))).2.1
    show sm _ (tk A (kN A - (n + 1)) r + 1) ≤ pas (kH A (kN A - (n + 1)) + rs A n) (sZ A - hd r 12)
    rw [← vander]
    refine Nat.le_trans (sm_le (g := fun j => pas (kH A (kN A - (n + 1))) j * pas (rs A n) (sZ A - hd r 12 - j)) (fun j hj => ?_)) ?_
    · refine Nat.mul_le_mul_left _ ?_
      have hf := vr_fit1 (j := j) hW hv (by omega)
      have hv' := vr_nxt hW hk hv (j := j) (by omega)
      rw [show kN A - (n + 1) + 1 = kN A - n by omega] at hv'
      have := wy_le hW (n := n) (by omega) hv'
      rw [n12_nxt hf, show sZ A - (hd r 12 + j) = sZ A - hd r 12 - j by omega] at this
      exact this
    · obtain ⟨d, hd'⟩ : ∃ d, sZ A - hd r 12 = tk A (kN A - (n + 1)) r + d := ⟨_, (Nat.add_sub_cancel' ht).symm⟩
      rw [hd', show tk A (kN A - (n + 1)) r + d + 1 = tk A (kN A - (n + 1)) r + 1 + d by omega]
      exact sm_more
theorem cnt_sum {f : Nat → Nat} {g : Nat → Nat} {m : Nat} (hg : ∀ i j, i < j → j < m → g i < g j) : ∀ n, sm (fun k => cnt f (g k) n) m ≤ n
  | 0 => by
    show sm (fun _ => 0) m ≤ 0
    rw [sm_0]; exact Nat.le_refl _
  | n + 1 => by
    have ih := cnt_sum (f := f) hg n
    have e : sm (fun k => cnt f (g k) (n + 1)) m = sm (fun k => cnt f (g k) n) m + sm (fun k => if f n = g k then 1 else 0) m := sm_add _ _ _
    have one : ∀ m', m' ≤ m → sm (fun k => if f n = g k then 1 else 0) m' ≤ 1 ∧ ((∀ k, k < m' → f n ≠ g k) → sm (fun k => if f n = g k then 1 else 0) m' = 0) := by
      intro m'
      induction m' with
      | zero => exact fun _ => ⟨Nat.zero_le _, fun _ => rfl⟩
      | succ m' ih =>
        intro hm
        obtain ⟨i1, i2⟩ := ih (by omega)
        have es : sm (fun k => if f n = g k then 1 else 0) (m' + 1) = sm (fun k => if f n = g k then 1 else 0) m' + if f n = g m' then 1 else 0 := rfl
        refine ⟨?_, fun hne => by rw [es, i2 (fun k hk => hne k (by omega)), if_neg (hne m' (by omega))]⟩
        by_cases e : f n = g m'
        · rw [es, if_pos e, i2 (fun k hk => ?_)]
          · exact Nat.le_refl _
          · have := hg k m' hk (by omega); omega
        · rw [es, if_neg e]; exact i1
    have := (one m (Nat.le_refl _)).1
    omega
theorem rs_sum (A : Ab) : ∀ {n m : Nat}, m + n = kN A → sm (kH A) m + rs A n = sm (kH A) (kN A)
  | 0, m, h => by rw [← h]; rfl
  | n + 1, m, h => by
    have := rs_sum A (n := n) (m := m + 1) (by omega)
    rw [← this]
    show sm (kH A) m + (kH A (kN A - (n + 1)) + rs A n) = sm (kH A) m + kH A m + rs A n
    rw [show kN A - (n + 1) = m by omega]; omega
theorem rs_le {A : Ab} (hW : WF A) {n : Nat} (hn : n ≤ kN A) : rs A n ≤ 40 := by
  have h1 := rs_sum A (n := n) (m := kN A - n) (by omega)
  have h2 := cnt_sum (f := aC A) (g := kC A) (m := kN A) hW.2.2.1.1 (aN A)
  have h3 : sm (kH A) (kN A) = sm (fun k => cnt (aC A) (kC A k) (aN A)) (kN A) := sm_congr (fun k hk => (hW.2.2.1.2.1 k hk).2.1)
  have h4 := hW.1
  omega
theorem wy_lt {A : Ab} (hW : WF A) {n r : Nat} (hn : n ≤ kN A) (hv : VR A (kN A - n) r) : wy A n r ≤ 76904685 :=
  Nat.le_trans (wy_le hW hn hv) (pas_le (rs_le hW hn) (by have := hW.2.2.2.2.2.2.2; omega))
