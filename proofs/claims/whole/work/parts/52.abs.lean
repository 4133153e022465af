/-! The pure side: frames, and what an office is apart from its cells. -/
def Fz (S : Nat → Nat → Bool) (z z' : St) : Prop := ∀ c k, S c k = false → z'.1 c k = z.1 c k ∧ z'.2 c k = z.2 c k
theorem fz_rfl {S : Nat → Nat → Bool} {z : St} : Fz S z z := fun _ _ _ => ⟨rfl, rfl⟩
theorem fz_trans {S : Nat → Nat → Bool} {z z' z'' : St} (h : Fz S z z') (h' : Fz S z' z'') : Fz S z z'' :=
  fun c k e => ⟨(h' c k e).1.trans (h c k e).1, (h' c k e).2.trans (h c k e).2⟩
theorem fz_mono {S T : Nat → Nat → Bool} {z z' : St} (h : Fz S z z') (hs : ∀ c k, T c k = false → S c k = false) : Fz T z z' :=
  fun c k e => h c k (hs c k e)
theorem fz_I {S : Nat → Nat → Bool} {z z' : St} {c k : Nat} {v : Int32} (h : Fz S z z') (hs : S c k = true) : Fz S z (wI z' c k v) := by
  intro a b e
  refine ⟨?_, (h a b e).2⟩
  show (if a = c then (if b = k then v else z'.1 a b) else z'.1 a b) = z.1 a b
  by_cases h1 : a = c
  · by_cases h2 : b = k
    · subst h1; subst h2; rw [hs] at e; exact absurd e (by decide)
    · rw [if_pos h1, if_neg h2]; exact (h a b e).1
  · rw [if_neg h1]; exact (h a b e).1
theorem fz_L {S : Nat → Nat → Bool} {z z' : St} {c k : Nat} {v : Int64} (h : Fz S z z') (hs : S c k = true) : Fz S z (wL z' c k v) := by
  intro a b e
  refine ⟨(h a b e).1, ?_⟩
  show (if a = c then (if b = k then v else z'.2 a b) else z'.2 a b) = z.2 a b
  by_cases h1 : a = c
  · by_cases h2 : b = k
    · subst h1; subst h2; rw [hs] at e; exact absurd e (by decide)
    · rw [if_pos h1, if_neg h2]; exact (h a b e).2
  · rw [if_neg h1]; exact (h a b e).2
def mix (S : Nat → Nat → Bool) (z z' : St) : St := (fun c k => if S c k = true then z'.1 c k else z.1 c k, fun c k => if S c k = true then z'.2 c k else z.2 c k)
theorem fz_mix {S : Nat → Nat → Bool} {z z' : St} (h : Fz S z z') : mix S z z' = z' := by
  refine Prod.ext (funext fun c => funext fun k => ?_) (funext fun c => funext fun k => ?_)
  · show (if S c k = true then z'.1 c k else z.1 c k) = z'.1 c k
    by_cases e : S c k = true
    · rw [if_pos e]
    · rw [if_neg e]; exact ((h c k (by simpa using e)).1).symm
  · show (if S c k = true then z'.2 c k else z.2 c k) = z'.2 c k
    by_cases e : S c k = true
    · rw [if_pos e]
    · rw [if_neg e]; exact ((h c k (by simpa using e)).2).symm
theorem zI_at {z : St} {c k : Nat} {v : Int32} : (wI z c k v).1 c k = v := by
  show (if c = c then (if k = k then v else z.1 c k) else z.1 c k) = v
  rw [if_pos rfl, if_pos rfl]
theorem zI_ne {z : St} {c k j : Nat} {v : Int32} (h : j ≠ k) : (wI z c k v).1 c j = z.1 c j := by
  show (if c = c then (if j = k then v else z.1 c j) else z.1 c j) = z.1 c j
  rw [if_pos rfl, if_neg h]
theorem zL_at {z : St} {c k : Nat} {v : Int64} : (wL z c k v).2 c k = v := by
  show (if c = c then (if k = k then v else z.2 c k) else z.2 c k) = v
  rw [if_pos rfl, if_pos rfl]
theorem zL_ne {z : St} {c k j : Nat} {v : Int64} (h : j ≠ k) : (wL z c k v).2 c j = z.2 c j := by
  show (if c = c then (if j = k then v else z.2 c j) else z.2 c j) = z.2 c j
  rw [if_pos rfl, if_neg h]
abbrev Ab : Type := Nat × (Nat → Nat) × Nat × (Nat → Nat) × (Nat → Nat) × (Nat → Nat) × (Nat → Nat) × (Nat → Nat) × Nat
def aN (A : Ab) : Nat := A.1
def aC (A : Ab) : Nat → Nat := A.2.1
def kN (A : Ab) : Nat := A.2.2.1
def kC (A : Ab) : Nat → Nat := A.2.2.2.1
def kH (A : Ab) : Nat → Nat := A.2.2.2.2.1
def vS (A : Ab) : Nat → Nat := A.2.2.2.2.2.1
def lO (A : Ab) : Nat → Nat := A.2.2.2.2.2.2.1
def hI (A : Ab) : Nat → Nat := A.2.2.2.2.2.2.2.1
def sZ (A : Ab) : Nat := A.2.2.2.2.2.2.2.2
/-- value of a code for a trait -/
def dg (c t : Nat) : Nat := c / 4 ^ (2 - t) % 4
theorem dg_lt (c t : Nat) : dg c t < 4 := Nat.mod_lt _ (by decide)
def cnt (f : Nat → Nat) (c : Nat) : Nat → Nat
  | 0 => 0
  | n + 1 => cnt f c n + if f n = c then 1 else 0
theorem cnt_le (f : Nat → Nat) (c : Nat) : ∀ n, cnt f c n ≤ n
  | 0 => Nat.le_refl _
  | n + 1 => by
    have := cnt_le f c n
    show cnt f c n + (if f n = c then 1 else 0) ≤ n + 1
    split <;> omega
theorem cnt_pos {f : Nat → Nat} {c : Nat} : ∀ {n : Nat}, cnt f c n ≠ 0 → ∃ p, p < n ∧ f p = c
  | 0, h => absurd rfl h
  | n + 1, h => by
    by_cases e : f n = c
    · exact ⟨n, by omega, e⟩
    · have : cnt f c (n + 1) = cnt f c n := by show cnt f c n + (if f n = c then 1 else 0) = _; rw [if_neg e]; rfl
      rw [this] at h
      obtain ⟨p, hp, e⟩ := cnt_pos h
      exact ⟨p, by omega, e⟩
theorem cnt_has {f : Nat → Nat} {c : Nat} : ∀ {n p : Nat}, p < n → f p = c → 1 ≤ cnt f c n
  | 0, p, h, _ => absurd h (Nat.not_lt_zero _)
  | n + 1, p, h, e => by
    show 1 ≤ cnt f c n + (if f n = c then 1 else 0)
    by_cases e2 : p = n
    · subst e2; rw [if_pos e]; omega
    · have := cnt_has (f := f) (n := n) (p := p) (by omega) e
      omega
theorem cnt_congr {f g : Nat → Nat} {c : Nat} : ∀ {n : Nat}, (∀ p, p < n → f p = g p) → cnt f c n = cnt g c n
  | 0, _ => rfl
  | n + 1, h => by
    show cnt f c n + (if f n = c then 1 else 0) = cnt g c n + (if g n = c then 1 else 0)
    rw [cnt_congr (fun p hp => h p (by omega)), h n (by omega)]
/-- the kinds of a pool -/
def KD (A : Ab) : Prop := (∀ j k, j < k → k < kN A → kC A j < kC A k) ∧ (∀ k, k < kN A → kC A k < 64 ∧ kH A k = cnt (aC A) (kC A k) (aN A) ∧ 1 ≤ kH A k) ∧ (∀ p, p < aN A → ∃ k, k < kN A ∧ kC A k = aC A p)
def WF (A : Ab) : Prop := aN A ≤ 40 ∧ kN A ≤ 16 ∧ KD A ∧ (∀ p, p < aN A → aC A p < 64 ∧ ∀ t, t < 3 → dg (aC A p) t < vS A t) ∧ (∀ t, t < 3 → 1 ≤ vS A t ∧ vS A t ≤ 4) ∧ (∀ q, q < 12 → lO A q ≤ hI A q ∧ hI A q ≤ 8) ∧ 1 ≤ sZ A ∧ sZ A ≤ 8
theorem kH_le {A : Ab} (h : KD A) {k : Nat} (hk : k < kN A) : kH A k ≤ aN A := by
  rw [(h.2.1 k hk).2.1]; exact cnt_le _ _ _
/-- the pool of the office: kinds, persons, values, quotas, size -/
def OK (A : Ab) (z : St) : Prop := z.1 1 5 = jI (kN A) ∧ (∀ k, k < kN A → z.1 4 k = jI (kC A k)) ∧ ∀ k, k < kN A → z.1 5 k = jI (kH A k)
def OP (A : Ab) (z : St) : Prop := z.1 1 4 = jI (aN A) ∧ ∀ p, p < aN A → z.1 3 p = jI (aC A p)
def OV (A : Ab) (z : St) : Prop := ∀ t, t < 3 → z.1 2 t = jI (vS A t)
def OQ (A : Ab) (z : St) : Prop := (∀ q, q < 12 → z.1 7 q = jI (lO A q)) ∧ ∀ q, q < 12 → z.1 8 q = jI (hI A q)
def OS (A : Ab) (z : St) : Prop := z.1 0 8 = jI (sZ A)
/-- the same of the reference -/
def RK (A : Ab) (z : St) : Prop := z.1 31 8 = jI (kN A) ∧ (∀ k, k < kN A → z.1 37 k = jI (kC A k)) ∧ ∀ k, k < kN A → z.1 38 k = jI (kH A k)
def RP (A : Ab) (z : St) : Prop := z.1 31 1 = jI (aN A) ∧ ∀ p, p < aN A → ∀ t, t < 3 → z.1 32 (3 * p + t) = jI (dg (aC A p) t)
def RV (A : Ab) (z : St) : Prop := ∀ t, t < 3 → z.1 34 t = jI (vS A t)
def RQ (A : Ab) (z : St) : Prop := (∀ q, q < 12 → z.1 35 q = jI (lO A q)) ∧ ∀ q, q < 12 → z.1 36 q = jI (hI A q)
def RS (A : Ab) (z : St) : Prop := z.1 31 7 = jI (sZ A)
theorem val_in : ∀ c : Nat, c < 64 → ∀ t : Nat, t < 3 → (jI c >>> (((2 : Int32) * ((2 : Int32) - jI t)) &&& 31)) &&& (3 : Int32) = jI (dg c t) := by decide +kernel
theorem s_valueIn {c t : Nat} {z : St} {Q : Int32 → St → Prop} (hc : c < 64) (ht : t < 3) (h : Q (jI (dg c t)) z) : P_P_valueIn (jI c) (jI t) z Q := by
  show Q _ z
  rw [val_in c hc t ht]; exact h
theorem s_kindsBelow {A : Ab} {c : Nat} {z : St} {Q : Int32 → St → Prop} (hW : kN A ≤ 16) (hD : KD A) (hO : OK A z) (hc : c < 64) (h : ∀ k, k ≤ kN A → (∀ j, j < k → kC A j < c) → (k < kN A → c ≤ kC A k) → Q (jI k) z) : P_P_kindsBelow (jI c) z Q := by
  have loop : ∀ (d k : Nat), k + d = kN A → (∀ j, j < k → kC A j < c) → L_P_kindsBelow_2 Q (d + 1) (jI c) (jI k) z := by
    intro d
    induction d with
    | zero =>
      intro k hk hj
      refine ⟨fun _ => h k (by omega) hj (fun h2 => by omega), fun hn => absurd ?_ hn⟩
      rw [hO.1, jI_le (by omega) (by omega)]; omega
    | succ d ih =>
      intro k hk hj
      have hkk : k < kN A := by omega
      have h64 := (hD.2.1 k hkk).1
      refine ⟨fun hn => absurd hn ?_, fun _ => ⟨vp_n (by omega) (by decide), fun h2 => ?_, fun h2 => ex1 ?_⟩⟩
      · rw [hO.1, jI_le (by omega) (by omega)]; omega
      · rw [jI_tn (by omega), hO.2.1 k hkk, jI_le (by omega) (by omega)] at h2
        exact h k (by omega) hj (fun _ => h2)
      · rw [jI_tn (by omega), hO.2.1 k hkk, jI_le (by omega) (by omega)] at h2
        rw [jI_s]
        refine ih (k + 1) (by omega) (fun j hj' => ?_)
        by_cases e : j = k
        · subst e; omega
        · exact hj j (by omega)
  exact ⟨_, loop (kN A) 0 (by omega) (fun j hj => absurd hj (Nat.not_lt_zero _))⟩
