/-! The pure side: a person comes in. -/
theorem s_below {n c : Nat} {f : Nat → Nat} {z : St} {Q : Int32 → St → Prop} (hn : n ≤ 16) (h5 : z.1 1 5 = jI n) (h4 : ∀ k, k < n → z.1 4 k = jI (f k) ∧ f k < 64) (hc : c < 64) (h : ∀ k, k ≤ n → (∀ j, j < k → f j < c) → (k < n → c ≤ f k) → Q (jI k) z) : P_P_kindsBelow (jI c) z Q := by
  have loop : ∀ (d k : Nat), k + d = n → (∀ j, j < k → f j < c) → L_P_kindsBelow_2 Q (d + 1) (jI c) (jI k) z := by
    intro d
    induction d with
    | zero =>
      intro k hk hj
      refine ⟨fun _ => h k (by omega) hj (fun h2 => by omega), fun hn => absurd ?_ hn⟩
      rw [h5, jI_le (by omega) (by omega)]; omega
    | succ d ih =>
      intro k hk hj
      have hkk : k < n := by omega
      have h64 := (h4 k hkk).2
      refine ⟨fun hn => absurd hn ?_, fun _ => ⟨vp_n (by omega) (by decide), fun h2 => ?_, fun h2 => ex1 ?_⟩⟩
      · rw [h5, jI_le (by omega) (by omega)]; omega
      · rw [jI_tn (by omega), (h4 k hkk).1, jI_le (by omega) (by omega)] at h2
        exact h k (by omega) hj (fun _ => h2)
      · rw [jI_tn (by omega), (h4 k hkk).1, jI_le (by omega) (by omega)] at h2
        rw [jI_s]
        refine ih (k + 1) (by omega) (fun j hj' => ?_)
        by_cases e : j = k
        · subst e; omega
        · exact hj j (by omega)
  exact ⟨_, loop n 0 (by omega) (fun j hj => absurd hj (Nat.not_lt_zero _))⟩
abbrev Si : Nat → Nat → Bool := fun c k => c == 4 || (c == 5 || (c == 1 && k == 5))
theorem s_insertKind {n a c : Nat} {z : St} {Q : St → Prop} (hn : n < 16) (ha : a ≤ n) (h5 : z.1 1 5 = jI n) (h : ∀ z', Fz Si z z' → z'.1 1 5 = jI (n + 1) → (∀ j, j < a → z'.1 4 j = z.1 4 j ∧ z'.1 5 j = z.1 5 j) → z'.1 4 a = jI c → z'.1 5 a = 0 → (∀ j, a < j → j ≤ n → z'.1 4 j = z.1 4 (j - 1) ∧ z'.1 5 j = z.1 5 (j - 1)) → Q z') : P_P_insertKind (jI a) (jI c) z Q := by
  have loop : ∀ (K : Int32 → Int32 → St → Prop), (∀ z', Fz Si z z' → (∀ j, j ≤ a → z'.1 4 j = z.1 4 j ∧ z'.1 5 j = z.1 5 j) → (∀ j, a < j → j ≤ n → z'.1 4 j = z.1 4 (j - 1) ∧ z'.1 5 j = z.1 5 (j - 1)) → z'.1 1 5 = jI n → K (jI a) (jI c) z') → ∀ (d i : Nat) (z' : St), i = a + d → i ≤ n → Fz Si z z' → z'.1 1 5 = jI n → (∀ j, j ≤ i → z'.1 4 j = z.1 4 j ∧ z'.1 5 j = z.1 5 j) → (∀ j, i < j → j ≤ n → z'.1 4 j = z.1 4 (j - 1) ∧ z'.1 5 j = z.1 5 (j - 1)) → L_P_insertKind_5 K Q (d + 1) (jI a) (jI c) (jI i) z' := by
    intro K hK d
    induction d with
    | zero =>
      intro i z' hi hin hF h5' h1 h2
      refine ⟨fun _ => hK z' hF (fun j hj => h1 j (by omega)) (fun j hj hj' => h2 j (by omega) hj') h5', fun hn => absurd ?_ hn⟩
      rw [jI_le (by omega) (by omega)]; omega
    | succ d ih =>
      intro i z' hi hin hF h5' h1 h2
      refine ⟨fun hn => absurd hn ?_, fun _ => ?_⟩
      · rw [jI_le (by omega) (by omega)]; omega
      rw [show (1 : Int32) = jI 1 from rfl, jI_sub (by omega), jI_tn (by omega), jI_tn (by omega)]
      refine ⟨vp_n (by omega) (by decide), vp_n (by omega) (by decide), ex1 ⟨vp_n (by omega) (by decide), vp_n (by omega) (by decide), ex1 (ex1 ?_)⟩⟩
      refine ih (i - 1) _ (by omega) (by omega) (fz_I (fz_I hF rfl) rfl) h5' (fun j hj => ?_) (fun j hj hj' => ?_)
      · have e : j ≠ i := by omega
        refine ⟨(zI_ne (z := z') (c := 4) e).trans (h1 j (by omega)).1, (zI_ne (z := wI z' 4 i (z'.1 4 (i - 1))) (c := 5) e).trans (h1 j (by omega)).2⟩
      · by_cases e : j = i
        · subst e
          refine ⟨(zI_at (z := z') (c := 4)).trans (h1 (j - 1) (by omega)).1, (zI_at (z := wI z' 4 j (z'.1 4 (j - 1))) (c := 5)).trans (h1 (j - 1) (by omega)).2⟩
        · refine ⟨(zI_ne (z := z') (c := 4) e).trans (h2 j (by omega) hj').1, (zI_ne (z := wI z' 4 i (z'.1 4 (i - 1))) (c := 5) e).trans (h2 j (by omega) hj').2⟩
  unfold P_P_insertKind
  rw [h5]
  refine ex1 ⟨_, loop _ (fun z' hF h1 h2 h5' => ?_) (n - a) n z (by omega) (Nat.le_refl _) fz_rfl h5 (fun j _ => ⟨rfl, rfl⟩) (fun j hj hj' => by omega)⟩
  rw [jI_tn (by omega)]
  refine ⟨vp_n (by omega) (by decide), ex1 ⟨vp_n (by omega) (by decide), ex1 (ex1 ?_)⟩⟩
  refine h _ (fz_I (fz_I (fz_I hF rfl) rfl) rfl) ?_ (fun j hj => ?_) ?_ ?_ (fun j hj hj' => ?_)
  · show z'.1 1 5 + 1 = jI (n + 1)
    rw [h5', jI_s]
  · have e : j ≠ a := by omega
    exact ⟨(zI_ne (z := z') (c := 4) e).trans (h1 j (by omega)).1, (zI_ne (z := wI z' 4 a (jI c)) (c := 5) e).trans (h1 j (by omega)).2⟩
  · exact zI_at (z := z') (c := 4)
  · exact zI_at (z := wI z' 4 a (jI c)) (c := 5)
  · have e : j ≠ a := by omega
    exact ⟨(zI_ne (z := z') (c := 4) e).trans (h2 j hj hj').1, (zI_ne (z := wI z' 4 a (jI c)) (c := 5) e).trans (h2 j hj hj').2⟩
def fup (f : Nat → Nat) (n c : Nat) : Nat → Nat := fun p => if p = n then c else f p
theorem fup_at {f : Nat → Nat} {n c : Nat} : fup f n c n = c := if_pos rfl
theorem fup_ne {f : Nat → Nat} {n c p : Nat} (h : p ≠ n) : fup f n c p = f p := if_neg h
theorem cnt_fup {f : Nat → Nat} {n c x : Nat} : cnt (fup f n c) x (n + 1) = cnt f x n + if c = x then 1 else 0 := by
  show cnt (fup f n c) x n + (if fup f n c n = x then 1 else 0) = _
  rw [fup_at, cnt_congr (g := f) (fun p hp => fup_ne (by omega))]
abbrev Sa : Nat → Nat → Bool := fun c k => c == 3 || (c == 4 || (c == 5 || (c == 1 && (k == 5 || k == 4))))
theorem s_addEnd {n k0 N c : Nat} {f g : Nat → Nat} {z : St} {Q : Int32 → St → Prop} (hn : n ≤ 16) (hk0 : k0 < n) (hc : c < 64) (hN : N < 40) (h5 : z.1 1 5 = jI n) (hso : ∀ i j, i < j → j < n → f i < f j) (h4 : ∀ k, k < n → z.1 4 k = jI (f k) ∧ f k < 64) (hg : ∀ k, k < n → z.1 5 k = jI (g k)) (hk : f k0 = c) (hp : z.1 1 4 = jI N)
    (h : ∀ z', Fz Sa z z' → z'.1 1 5 = jI n → z'.1 1 4 = jI (N + 1) → (∀ k, k < n → z'.1 4 k = jI (f k)) → (∀ k, k < n → z'.1 5 k = jI (fup g k0 (g k0 + 1) k)) → (∀ p, p ≠ N → z'.1 3 p = z.1 3 p) → z'.1 3 N = jI c → Q (jI N) z') : J_P_add_18 Q (jI c) z := by
  refine s_below hn h5 h4 hc (fun k hkn hb ha => ?_)
  have hkk : k = k0 := by
    by_cases e1 : k0 < k
    · have := hb k0 e1; omega
    · by_cases e2 : k = k0
      · exact e2
      · have := ha (by omega)
        have := hso k k0 (by omega) hk0
        omega
  subst hkk
  rw [jI_tn (by omega)]
  refine ⟨vp_n (by omega) (by decide), vp_n (by omega) (by decide), ex1 ?_⟩
  rw [show (wI z 5 k (z.1 5 k + 1)).1 1 4 = jI N from hp, jI_tn (by omega)]
  refine ⟨vp_n (by omega) (by decide), ex1 (ex1 ?_)⟩
  rw [show (wI (wI z 5 k (z.1 5 k + 1)) 3 N (jI c)).1 1 4 = jI N from hp]
  refine h _ (fz_I (fz_I (fz_I fz_rfl rfl) rfl) rfl) h5 (jI_s N) (fun j hj => (h4 j hj).1) (fun j hj => ?_) (fun p hpn => zI_ne (z := wI z 5 k (z.1 5 k + 1)) (c := 3) hpn) (zI_at (z := wI z 5 k (z.1 5 k + 1)) (c := 3))
  by_cases e : j = k
  · subst e
    rw [fup_at]
    refine (zI_at (z := z) (c := 5)).trans ?_
    rw [hg j hj, jI_s]
  · rw [fup_ne e]
    exact (zI_ne (z := z) (c := 5) e).trans (hg j hj)
theorem s_add {A : Ab} {c : Nat} {z : St} {Q : Int32 → St → Prop} (hD : KD A) (hK : kN A ≤ 16) (hN : aN A < 40) (hO : OK A z) (hP : OP A z) (hc : c < 64) (hroom : kN A < 16 ∨ ∃ k, k < kN A ∧ kC A k = c)
    (h : ∀ (n : Nat) (f g : Nat → Nat) (z' : St), n ≤ 16 → Fz Sa z z' → KD (aN A + 1, fup (aC A) (aN A) c, n, f, g, A.2.2.2.2.2) → OK (aN A + 1, fup (aC A) (aN A) c, n, f, g, A.2.2.2.2.2) z' → OP (aN A + 1, fup (aC A) (aN A) c, n, f, g, A.2.2.2.2.2) z' → Q (jI (aN A)) z') : P_P_add (jI c) z Q := by
  have fin : ∀ (z1 : St) (n k0 : Nat) (f g : Nat → Nat), Fz Si z z1 → n ≤ 16 → k0 < n → z1.1 1 5 = jI n → (∀ i j, i < j → j < n → f i < f j) → (∀ k, k < n → z1.1 4 k = jI (f k) ∧ f k < 64) → (∀ k, k < n → z1.1 5 k = jI (g k)) → f k0 = c → (∀ k, k < n → k ≠ k0 → g k = cnt (aC A) (f k) (aN A) ∧ 1 ≤ g k) → g k0 = cnt (aC A) c (aN A) → (∀ p, p < aN A → ∃ k, k < n ∧ f k = aC A p) → J_P_add_18 Q (jI c) z1 := by
    intro z1 n k0 f g hF hn hk0 h5 hso h4 hg hfk hcnt hck hex
    refine s_addEnd hn hk0 hc hN h5 hso h4 hg hfk ((hF 1 4 rfl).1.trans hP.1) (fun z' hF' e5 e4 h4' h5' h3' h3n => ?_)
    refine h n f (fup g k0 (g k0 + 1)) z' hn (fz_trans (fz_mono hF (fun c k e => ?_)) hF') ⟨hso, fun k hk => ⟨(h4 k hk).2, ?_, ?_⟩, fun p hp => ?_⟩ ⟨e5, h4', h5'⟩ ⟨e4, fun p hp => ?_⟩
    · simp only [Bool.or_eq_false_iff, Bool.and_eq_false_iff] at e ⊢
      exact ⟨e.2.1, e.2.2.1, e.2.2.2.imp id (fun h => h.1)⟩
    · show fup g k0 (g k0 + 1) k = cnt (fup (aC A) (aN A) c) (f k) (aN A + 1)
      rw [cnt_fup]
      by_cases e : k = k0
      · subst e; rw [fup_at, hfk, if_pos rfl, hck]
      · rw [fup_ne e, (hcnt k hk e).1, if_neg]; rfl
        intro e2
        rw [← hfk] at e2
        rcases Nat.lt_or_gt_of_ne e with e3 | e3
        · have := hso k k0 e3 hk0; omega
        · have := hso k0 k e3 hk; omega
    · show 1 ≤ fup g k0 (g k0 + 1) k
      by_cases e : k = k0
      · subst e; rw [fup_at]; omega
      · rw [fup_ne e]; exact (hcnt k hk e).2
    · show ∃ k, k < n ∧ f k = fup (aC A) (aN A) c p
      by_cases e : p = aN A
      · subst e; rw [fup_at]; exact ⟨k0, hk0, hfk⟩
      · rw [fup_ne e]; exact hex p (by have : p < aN A + 1 := hp; omega)
    · show z'.1 3 p = jI (fup (aC A) (aN A) c p)
      by_cases e : p = aN A
      · subst e; rw [fup_at]; exact h3n
      · rw [fup_ne e, h3' p e]
        exact (hF 3 p rfl).1.trans (hP.2 p (by have : p < aN A + 1 := hp; omega))
  refine s_isKind hK hD hO hc (fun k hk e => ⟨fun _ => ?_, fun h0 => absurd h0 (by decide)⟩) (fun hno => ⟨fun h1 => absurd rfl h1, fun _ => ?_⟩)
  · exact fin z (kN A) k (kC A) (kH A) fz_rfl hK hk hO.1 hD.1 (fun j hj => ⟨hO.2.1 j hj, (hD.2.1 j hj).1⟩) hO.2.2 e (fun j hj _ => (hD.2.1 j hj).2) (by rw [(hD.2.1 k hk).2.1, e]) hD.2.2
  · have hlt : kN A < 16 := hroom.elim id (fun ⟨k, hk, e⟩ => absurd e (hno k hk))
    refine s_kindsBelow hK hD hO hc (fun a ha hb hab => s_insertKind hlt ha hO.1 (fun z1 hF e5 hj1 e4 e50 hj2 => ?_))
    refine fin z1 (kN A + 1) a (fun j => if j < a then kC A j else if j = a then c else kC A (j - 1)) (fun j => if j < a then kH A j else if j = a then 0 else kH A (j - 1)) hF (by omega) (by omega) e5 (fun i j hij hj => ?_) (fun k hk => ?_) (fun k hk => ?_) ?_ (fun k hk hne => ?_) ?_ (fun p hp => ?_)
    · show (if i < a then kC A i else if i = a then c else kC A (i - 1)) < (if j < a then kC A j else if j = a then c else kC A (j - 1))
      by_cases i1 : i < a
      · rw [if_pos i1]
        by_cases j1 : j < a
        · rw [if_pos j1]; exact hD.1 i j hij (by omega)
        · rw [if_neg j1]
          by_cases j2 : j = a
          · rw [if_pos j2]; exact hb i i1
          · rw [if_neg j2]; exact hD.1 i (j - 1) (by omega) (by omega)
      · rw [if_neg i1, if_neg (by omega : ¬ j < a), if_neg (by omega : ¬ j = a)]
        by_cases i2 : i = a
        · rw [if_pos i2]
          have h1 := hab (by omega)
          have h2 := hno a (by omega)
          by_cases e : j - 1 = a
          · rw [e]; omega
          · have := hD.1 a (j - 1) (by omega) (by omega); omega
        · rw [if_neg i2]; exact hD.1 (i - 1) (j - 1) (by omega) (by omega)
    · show z1.1 4 k = jI (if k < a then kC A k else if k = a then c else kC A (k - 1)) ∧ (if k < a then kC A k else if k = a then c else kC A (k - 1)) < 64
      by_cases i1 : k < a
      · rw [if_pos i1, (hj1 k i1).1]; exact ⟨hO.2.1 k (by omega), (hD.2.1 k (by omega)).1⟩
      · rw [if_neg i1]
        by_cases i2 : k = a
        · rw [if_pos i2, i2]; exact ⟨e4, hc⟩
        · rw [if_neg i2, (hj2 k (by omega) (by omega)).1]; exact ⟨hO.2.1 _ (by omega), (hD.2.1 _ (by omega)).1⟩
    · show z1.1 5 k = jI (if k < a then kH A k else if k = a then 0 else kH A (k - 1))
      by_cases i1 : k < a
      · rw [if_pos i1, (hj1 k i1).2]; exact hO.2.2 k (by omega)
      · rw [if_neg i1]
        by_cases i2 : k = a
        · rw [if_pos i2, i2]; exact e50
        · rw [if_neg i2, (hj2 k (by omega) (by omega)).2]; exact hO.2.2 _ (by omega)
    · show (if a < a then kC A a else if a = a then c else kC A (a - 1)) = c
      rw [if_neg (by omega), if_pos rfl]
    · show (if k < a then kH A k else if k = a then 0 else kH A (k - 1)) = cnt (aC A) (if k < a then kC A k else if k = a then c else kC A (k - 1)) (aN A) ∧ 1 ≤ (if k < a then kH A k else if k = a then 0 else kH A (k - 1))
      by_cases i1 : k < a
      · rw [if_pos i1, if_pos i1]; exact (hD.2.1 k (by omega)).2
      · rw [if_neg i1, if_neg i1, if_neg hne, if_neg hne]; exact (hD.2.1 _ (by omega)).2
    · show (if a < a then kH A a else if a = a then 0 else kH A (a - 1)) = cnt (aC A) c (aN A)
      rw [if_neg (by omega), if_pos rfl]
      by_cases e : cnt (aC A) c (aN A) = 0
      · exact e.symm
      · obtain ⟨p, hp, ep⟩ := cnt_pos e
        obtain ⟨k, hk, ek⟩ := hD.2.2 p hp
        exact absurd (ek.trans ep) (hno k hk)
    · obtain ⟨k, hk, ek⟩ := hD.2.2 p hp
      by_cases i1 : k < a
      · refine ⟨k, by omega, ?_⟩
        show (if k < a then kC A k else if k = a then c else kC A (k - 1)) = aC A p
        rw [if_pos i1]; exact ek
      · refine ⟨k + 1, by omega, ?_⟩
        show (if k + 1 < a then kC A (k + 1) else if k + 1 = a then c else kC A (k + 1 - 1)) = aC A p
        rw [if_neg (by omega), if_neg (by omega)]; exact ek
