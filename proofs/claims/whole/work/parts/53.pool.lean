/-! The pure side: the pool of the office and of the reference. -/
theorem s_isKind {A : Ab} {c : Nat} {z : St} {Q : Int32 → St → Prop} (hW : kN A ≤ 16) (hD : KD A) (hO : OK A z) (hc : c < 64) (h1 : ∀ k, k < kN A → kC A k = c → Q 1 z) (h0 : (∀ k, k < kN A → kC A k ≠ c) → Q 0 z) : P_P_isKind (jI c) z Q := by
  refine s_kindsBelow hW hD hO hc (fun k hk hb ha => ?_)
  have hno : (k < kN A → kC A k ≠ c) → ∀ j, j < kN A → kC A j ≠ c := by
    intro hn j hj e
    by_cases h1 : j < k
    · have := hb j h1; omega
    · by_cases h2 : j = k
      · subst h2; exact hn hj e
      · have h3 := ha (by omega)
        have h4 := hD.1 k j (by omega) hj
        omega
  refine ⟨fun e => h0 (hno (fun h2 => ?_)), fun hn => ⟨?_, fun hne => h0 (hno (fun h2 e2 => ?_)), fun e => ?_⟩⟩
  · rw [hO.1, jI_le (by omega) (by omega)] at e; omega
  · rw [hO.1, jI_le (by omega) (by omega)] at hn; exact vp_n (by omega) (by decide)
  · have h6 := (hD.2.1 k h2).1
    rw [jI_tn (by omega), hO.2.1 k h2, jI_eq (by omega) (by omega)] at hne; exact hne e2
  · rw [hO.1, jI_le (by omega) (by omega)] at hn
    have h2 : k < kN A := by omega
    have h6 := (hD.2.1 k h2).1
    rw [jI_tn (by omega), hO.2.1 k h2, jI_eq (by omega) (by omega)] at e
    exact h1 k h2 e
theorem s_highest {A : Ab} {t : Nat} {z : St} {Q : Int32 → St → Prop} (hW : kN A ≤ 16) (hD : KD A) (hO : OK A z) (ht : t < 3) (h : ∀ x : Int32, (∀ k, k < kN A → jI (dg (kC A k) t) ≤ x) → (x = -1 ∨ ∃ k, k < kN A ∧ x = jI (dg (kC A k) t)) → Q x z) : P_P_highestValue (jI t) z Q := by
  have loop : ∀ (d k : Nat) (x : Int32), k + d = kN A → (∀ j, j < k → jI (dg (kC A j) t) ≤ x) → (x = -1 ∨ ∃ j, j < kN A ∧ x = jI (dg (kC A j) t)) → L_P_highestValue_4 Q (d + 1) (jI t) x (jI k) z := by
    intro d
    induction d with
    | zero =>
      intro k x hk hj hx
      refine ⟨fun _ => h x (fun j hj' => hj j (by omega)) hx, fun hn => absurd ?_ hn⟩
      rw [hO.1, jI_le (by omega) (by omega)]; omega
    | succ d ih =>
      intro k x hk hj hx
      have hkk : k < kN A := by omega
      have h64 := (hD.2.1 k hkk).1
      refine ⟨fun hn => absurd hn ?_, fun _ => ⟨vp_n (by omega) (by decide), ?_⟩⟩
      · rw [hO.1, jI_le (by omega) (by omega)]; omega
      · rw [jI_tn (by omega), hO.2.1 k hkk]
        refine s_valueIn h64 ht (ex1 (ex1 ?_))
        rw [jI_s]
        by_cases e : x < jI (dg (kC A k) t)
        · rw [show mmaxI x (jI (dg (kC A k) t)) = jI (dg (kC A k) t) from if_pos e]
          refine ih (k + 1) _ (by omega) (fun j hj' => ?_) (Or.inr ⟨k, hkk, rfl⟩)
          by_cases e2 : j = k
          · subst e2; exact Int32.le_refl _
          · exact Int32.le_trans (hj j (by omega)) (Int32.le_of_lt e)
        · rw [show mmaxI x (jI (dg (kC A k) t)) = x from if_neg e]
          refine ih (k + 1) _ (by omega) (fun j hj' => ?_) hx
          by_cases e2 : j = k
          · subst e2; exact i32_nlt.mp e
          · exact hj j (by omega)
  exact ⟨_, loop (kN A) 0 (-1) (by omega) (fun j hj => absurd hj (Nat.not_lt_zero _)) (Or.inl rfl)⟩
theorem dg_code {c : Nat} (hc : c < 64) : 16 * dg c 0 + 4 * dg c 1 + dg c 2 = c := by
  show 16 * (c / 16 % 4) + 4 * (c / 4 % 4) + c / 1 % 4 = c
  omega
theorem m_is {c p : Nat} {z : St} {Q : Int32 → St → Prop} (hp : p < 40) (hc : c < 64) (hv : ∀ t, t < 3 → z.1 32 (3 * p + t) = jI (dg c t)) (h : Q (jI c) z) : P_M_is (jI p) z Q := by
  have e0 : (3 : Int32) * jI p = jI (3 * p) := jI_mul 3 p
  have e1 : jI (3 * p) + (1 : Int32) = jI (3 * p + 1) := jI_add _ 1
  have e2 : jI (3 * p) + (2 : Int32) = jI (3 * p + 2) := jI_add _ 2
  unfold P_M_is
  rw [e0, e1, e2, jI_tn (by omega), jI_tn (by omega), jI_tn (by omega)]
  refine ⟨vp_n (by omega) (by decide), vp_n (by omega) (by decide), vp_n (by omega) (by decide), ?_⟩
  rw [show z.1 32 (3 * p) = jI (dg c 0) from hv 0 (by decide), hv 1 (by decide), hv 2 (by decide)]
  rw [show (16 : Int32) = jI 16 from rfl, show (4 : Int32) = jI 4 from rfl, jI_mul, jI_mul, jI_add, jI_add, dg_code hc]
  exact h
abbrev Sg : Nat → Nat → Bool := fun c k => c == 37 || (c == 38 || (c == 31 && k == 8))
theorem m_gather {A : Ab} {z : St} {Q : St → Prop} (hN : aN A ≤ 40) (hW : kN A ≤ 16) (hD : KD A) (hP : RP A z) (hC : ∀ p, p < aN A → aC A p < 64) (h : ∀ z', Fz Sg z z' → RK A z' → Q z') : P_M_gather z Q := by
  have inner : ∀ (z' : St) (v : Nat) (K : Int32 → Int32 → St → Prop), v < 64 → Fz Sg z z' → K (jI v) (jI (cnt (aC A) v (aN A))) z' → ∀ (d p : Nat), p + d = aN A → L_M_gather_17 K Q (d + 1) (jI v) (jI (cnt (aC A) v p)) (jI p) z' := by
    intro z' v K hv hF hK d
    have hr : z'.1 31 1 = jI (aN A) := (hF 31 1 rfl).1.trans hP.1
    induction d with
    | zero =>
      intro p hp
      have hp' : p = aN A := by omega
      subst hp'
      refine ⟨fun _ => hK, fun hn => absurd ?_ hn⟩
      rw [hr]; exact Int32.le_refl _
    | succ d ih =>
      intro p hp
      have hpp : p < aN A := by omega
      have h64 := hC p hpp
      have hcn := cnt_le (aC A) v p
      have hs : cnt (aC A) v (p + 1) = cnt (aC A) v p + if aC A p = v then 1 else 0 := rfl
      refine ⟨fun hn => absurd hn ?_, fun _ => m_is (c := aC A p) (by omega) h64 (fun t ht => (hF 32 _ rfl).1.trans (hP.2 p hpp t ht)) ⟨fun hne => ex1 (ex1 ?_), fun he => ex1 (ex1 ?_)⟩⟩
      · rw [hr, jI_le (by omega) (by omega)]; omega
      · rw [jI_eq (by omega) (by omega)] at hne
        rw [show jI (cnt (aC A) v p) + 0 = jI (cnt (aC A) v (p + 1)) by rw [hs, if_neg hne]; exact jI_add _ 0, jI_s]
        exact ih (p + 1) (by omega)
      · rw [jI_eq (by omega) (by omega)] at he
        rw [show jI (cnt (aC A) v p) + 1 = jI (cnt (aC A) v (p + 1)) by rw [hs, if_pos he]; exact jI_add _ 1, jI_s]
        exact ih (p + 1) (by omega)
  have outer : ∀ (d v j : Nat) (z' : St), v + d = 64 → j ≤ kN A → (∀ i, i < j → kC A i < v) → (j < kN A → v ≤ kC A j) → Fz Sg z z' → z'.1 31 8 = jI j → (∀ k, k < j → z'.1 37 k = jI (kC A k)) → (∀ k, k < j → z'.1 38 k = jI (kH A k)) → L_M_gather_7 Q (d + 1) (jI v) z' := by
    intro d
    induction d with
    | zero =>
      intro v j z' hv hj h1 h2 hF h8 ha hb
      have hv' : v = 64 := by omega
      have hj' : j = kN A := by
        by_cases e : j < kN A
        · have := h2 e
          have := (hD.2.1 j e).1
          omega
        · omega
      subst hj'
      refine ⟨fun _ => h z' hF ⟨h8, ha, hb⟩, fun hn => absurd ?_ hn⟩
      rw [show (64 : Int32) = jI 64 from rfl, jI_le (by omega) (by omega)]; omega
    | succ d ih =>
      intro v j z' hv hj h1 h2 hF h8 ha hb
      have hcn := cnt_le (aC A) v (aN A)
      refine ⟨fun hn => absurd hn ?_, fun _ => ⟨_, inner z' v _ (by omega) hF ?_ (aN A) 0 (by omega)⟩⟩
      · rw [show (64 : Int32) = jI 64 from rfl, jI_le (by omega) (by omega)]; omega
      refine ⟨fun hne => ?_, fun he => ex1 ?_⟩
      · have hc0 : cnt (aC A) v (aN A) ≠ 0 := fun e => hne (by rw [e]; rfl)
        obtain ⟨p, hp, ep⟩ := cnt_pos hc0
        obtain ⟨k, hk, ek⟩ := hD.2.2 p hp
        have hkj : k = j := by
          by_cases e1 : k < j
          · have := h1 k e1; omega
          · by_cases e2 : k = j
            · exact e2
            · have := hD.1 j k (by omega) hk
              have := h2 (by omega)
              omega
        subst hkj
        rw [h8, jI_tn (by omega)]
        refine ⟨vp_n (by omega) (by decide), ex1 ?_⟩
        rw [show (wI z' 37 k (jI v)).1 31 8 = jI k from h8, jI_tn (by omega)]
        refine ⟨vp_n (by omega) (by decide), ex1 (ex1 (ex1 ?_))⟩
        rw [show (wI (wI z' 37 k (jI v)) 38 k (jI (cnt (aC A) v (aN A)))).1 31 8 = jI k from h8, jI_s, jI_s]
        refine ih (v + 1) (k + 1) _ (by omega) (by omega) (fun i hi => ?_) (fun hi => ?_) (fz_I (fz_I (fz_I hF rfl) rfl) rfl) rfl (fun i hi => ?_) (fun i hi => ?_)
        · by_cases e : i = k
          · subst e; omega
          · have := h1 i (by omega); omega
        · have := hD.1 k (k + 1) (by omega) hi; omega
        · show (wI z' 37 k (jI v)).1 37 i = jI (kC A i)
          by_cases e : i = k
          · subst e; rw [zI_at, ek, ep]
          · rw [zI_ne e]; exact ha i (by omega)
        · show (wI z' 38 k (jI (cnt (aC A) v (aN A)))).1 38 i = jI (kH A i)
          by_cases e : i = k
          · subst e; rw [zI_at, (hD.2.1 i hk).2.1, ek, ep]
          · rw [zI_ne e]; exact hb i (by omega)
      · rw [jI_s]
        have hc0 : cnt (aC A) v (aN A) = 0 := by
          rw [show (0 : Int32) = jI 0 from rfl, jI_eq (by omega) (by decide)] at he; exact he
        refine ih (v + 1) j _ (by omega) hj (fun i hi => by have := h1 i hi; omega) (fun hi => ?_) hF h8 ha hb
        have h3 := h2 hi
        have h4 := hD.2.1 j hi
        by_cases e : kC A j = v
        · rw [e] at h4; omega
        · omega
  refine ex1 ⟨_, outer 64 0 0 (wI z 31 8 0) rfl (by omega) (fun i hi => absurd hi (Nat.not_lt_zero _)) (fun _ => Nat.zero_le _) (fz_I fz_rfl rfl) rfl (fun i hi => absurd hi (Nat.not_lt_zero _)) (fun i hi => absurd hi (Nat.not_lt_zero _))⟩
abbrev Sc : Nat → Nat → Bool := fun c k => c == 37 || (c == 38 || (c == 31 && (k == 8 || (k == 11 || (k == 23 || k == 29)))))
theorem m_changed {A : Ab} {z : St} {Q : St → Prop} (hW : WF A) (hP : RP A z) (h : ∀ z', Fz Sc z z' → RK A z' → z'.1 31 11 = 0 → z'.1 31 23 = 0 → z'.1 31 29 = 0 → Q z') : P_M_changed z Q := by
  refine ex1 (ex1 (ex1 (m_gather hW.1 hW.2.1 hW.2.2.1 hP (fun p hp => (hW.2.2.2.1 p hp).1) (fun z' hF hR => ?_))))
  refine h z' (fz_trans (fz_I (fz_I (fz_I fz_rfl rfl) rfl) rfl) (fz_mono hF (fun c k e => ?_))) hR ((hF 31 11 rfl).1.trans rfl) ((hF 31 23 rfl).1.trans rfl) ((hF 31 29 rfl).1.trans rfl)
  simp only [Bool.or_eq_false_iff, Bool.and_eq_false_iff] at e ⊢
  exact ⟨e.1, e.2.1, e.2.2.imp id (fun h => h.1)⟩
