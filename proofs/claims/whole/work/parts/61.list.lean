/-! The pure side: the list of states, layer by layer. -/
abbrev Li : Type := Nat × (Nat → Nat)
def hasB (f : Nat → Nat) (x : Nat) : Nat → Bool
  | 0 => false
  | n + 1 => hasB f x n || (f n == x)
theorem hasB_iff {f : Nat → Nat} {x : Nat} : ∀ {n : Nat}, hasB f x n = true ↔ ∃ i, i < n ∧ f i = x
  | 0 => ⟨fun h => absurd h Bool.false_ne_true, fun ⟨i, h, _⟩ => absurd h (Nat.not_lt_zero i)⟩
  | n + 1 => by
    show (hasB f x n || (f n == x)) = true ↔ _
    rw [Bool.or_eq_true, hasB_iff (n := n), beq_iff_eq]
    constructor
    · rintro (⟨i, h, e⟩ | e)
      · exact ⟨i, by omega, e⟩
      · exact ⟨n, by omega, e⟩
    · rintro ⟨i, h, e⟩
      by_cases e2 : i = n
      · subst e2; exact Or.inr e
      · exact Or.inl ⟨i, by omega, e⟩
def ins (G : Li) (x : Nat) : Li := if hasB G.2 x G.1 = true then G else (G.1 + 1, fup G.2 G.1 x)
theorem ins_old {G : Li} {x i : Nat} (h : i < G.1) (e : G.2 i = x) : ins G x = G := if_pos (hasB_iff.mpr ⟨i, h, e⟩)
theorem ins_new {G : Li} {x : Nat} (h : ∀ i, i < G.1 → G.2 i ≠ x) : ins G x = (G.1 + 1, fup G.2 G.1 x) :=
  if_neg (fun e => by obtain ⟨i, hi, e⟩ := hasB_iff.mp e; exact h i hi e)
theorem ins_cases (G : Li) (x : Nat) : (∃ i, i < G.1 ∧ G.2 i = x ∧ ins G x = G) ∨ ((∀ i, i < G.1 → G.2 i ≠ x) ∧ ins G x = (G.1 + 1, fup G.2 G.1 x)) := by
  by_cases h : ∃ i, i < G.1 ∧ G.2 i = x
  · obtain ⟨i, hi, e⟩ := h
    exact Or.inl ⟨i, hi, e, ins_old hi e⟩
  · have h' : ∀ i, i < G.1 → G.2 i ≠ x := fun i hi e => h ⟨i, hi, e⟩
    exact Or.inr ⟨h', ins_new h'⟩
def Pf (G G' : Li) : Prop := G.1 ≤ G'.1 ∧ ∀ i, i < G.1 → G'.2 i = G.2 i
theorem pf_rfl {G : Li} : Pf G G := ⟨Nat.le_refl _, fun _ _ => rfl⟩
theorem pf_trans {G G' G'' : Li} (h : Pf G G') (h' : Pf G' G'') : Pf G G'' :=
  ⟨Nat.le_trans h.1 h'.1, fun i hi => (h'.2 i (Nat.lt_of_lt_of_le hi h.1)).trans (h.2 i hi)⟩
theorem pf_ins {G : Li} {x : Nat} : Pf G (ins G x) := by
  rcases ins_cases G x with ⟨i, _, _, e⟩ | ⟨_, e⟩ <;> rw [e]
  · exact pf_rfl
  · exact ⟨Nat.le_succ _, fun i hi => fup_ne (by omega)⟩
theorem ins_has (G : Li) (x : Nat) : ∃ i, i < (ins G x).1 ∧ (ins G x).2 i = x := by
  rcases ins_cases G x with ⟨i, hi, e, e'⟩ | ⟨_, e⟩
  · rw [e']; exact ⟨i, hi, e⟩
  · rw [e]; exact ⟨G.1, Nat.lt_succ_self _, fup_at⟩
def Nd (G : Li) : Prop := ∀ i j, i < G.1 → j < G.1 → G.2 i = G.2 j → i = j
theorem nd_ins {G : Li} {x : Nat} (h : Nd G) : Nd (ins G x) := by
  rcases ins_cases G x with ⟨i, _, _, e⟩ | ⟨hn, e⟩ <;> rw [e]
  · exact h
  · intro i j hi hj e
    have hi' : i < G.1 + 1 := hi
    have hj' : j < G.1 + 1 := hj
    by_cases e1 : i = G.1
    · by_cases e2 : j = G.1
      · omega
      · have e' : fup G.2 G.1 x i = fup G.2 G.1 x j := e
        rw [e1, fup_at, fup_ne e2] at e'
        exact absurd e'.symm (hn j (by omega))
    · by_cases e2 : j = G.1
      · have e' : fup G.2 G.1 x i = fup G.2 G.1 x j := e
        rw [e2, fup_at, fup_ne e1] at e'
        exact absurd e' (hn i (by omega))
      · have e' : fup G.2 G.1 x i = fup G.2 G.1 x j := e
        rw [fup_ne e1, fup_ne e2] at e'
        exact h i j (by omega) (by omega) e'
/-- the states that one state leads to: n of them, from the j-th on -/
def spr (c r : Nat) : Nat → Nat → Li → Li
  | 0, _, G => G
  | n + 1, j, G => spr c r n (j + 1) (ins G (nxt c r j))
def lyr (A : Ab) (k : Nat) : Nat → Nat → Li → Li
  | 0, _, G => G
  | n + 1, s, G => lyr A k n (s + 1) (spr (kC A k) (G.2 s) (tk A k (G.2 s) + 1) 0 G)
def pr (A : Ab) : Nat → Li × Nat
  | 0 => ((1, fun _ => 0), 0)
  | k + 1 => (lyr A k ((pr A k).1.1 - (pr A k).2) (pr A k).2 (pr A k).1, (pr A k).1.1)
def sT (A : Ab) (k : Nat) : Nat := (pr A k).2
def GN (A : Ab) : Li := (pr A (kN A)).1
theorem sT_s (A : Ab) (k : Nat) : sT A (k + 1) = (pr A k).1.1 := rfl
theorem pf_spr {c r : Nat} : ∀ {n j : Nat} {G : Li}, Pf G (spr c r n j G)
  | 0, _, _ => pf_rfl
  | n + 1, j, G => pf_trans (pf_ins (x := nxt c r j)) (pf_spr (n := n))
theorem pf_lyr {A : Ab} {k : Nat} : ∀ {n s : Nat} {G : Li}, Pf G (lyr A k n s G)
  | 0, _, _ => pf_rfl
  | n + 1, s, G => pf_trans (pf_spr (c := kC A k) (r := G.2 s) (n := tk A k (G.2 s) + 1) (j := 0)) (pf_lyr (n := n))
theorem pf_prs {A : Ab} {k : Nat} : Pf (pr A k).1 (pr A (k + 1)).1 := pf_lyr
theorem pf_pr {A : Ab} {k : Nat} : ∀ {d : Nat}, Pf (pr A k).1 (pr A (k + d)).1
  | 0 => pf_rfl
  | d + 1 => pf_trans (pf_pr (d := d)) pf_prs
/-- layer k is being followed: before a the layers before k, up to b layer k, then layer k + 1 -/
def LPr (A : Ab) (k a b : Nat) (G : Li) : Prop := a ≤ b ∧ b ≤ G.1 ∧ Nd G ∧ (∀ i, i < a → ∃ m, m < k ∧ VR A m (G.2 i)) ∧ (∀ i, a ≤ i → i < b → VR A k (G.2 i)) ∧ ∀ i, b ≤ i → i < G.1 → VR A (k + 1) (G.2 i)
def LV (A : Ab) (k a : Nat) (G : Li) : Prop := a ≤ G.1 ∧ Nd G ∧ (∀ i, i < a → ∃ m, m < k ∧ VR A m (G.2 i)) ∧ ∀ i, a ≤ i → i < G.1 → VR A k (G.2 i)
theorem lp_ins {A : Ab} {k a b x : Nat} {G : Li} (h : LPr A k a b G) (hx : VR A (k + 1) x) : LPr A k a b (ins G x) := by
  obtain ⟨h1, h2, h3, h4, h5, h6⟩ := h
  have hp := pf_ins (G := G) (x := x)
  refine ⟨h1, Nat.le_trans h2 hp.1, nd_ins h3, fun i hi => ?_, fun i hi hi' => ?_, fun i hi hi' => ?_⟩
  · rw [hp.2 i (by omega)]; exact h4 i hi
  · rw [hp.2 i (by omega)]; exact h5 i hi hi'
  · by_cases e : i < G.1
    · rw [hp.2 i e]; exact h6 i hi e
    · rcases ins_cases G x with ⟨i', _, _, e'⟩ | ⟨hn, e'⟩
      · rw [e'] at hi'; exact absurd hi' e
      · rw [e'] at hi' ⊢
        have hi2 : i < G.1 + 1 := hi'
        have : i = G.1 := by omega
        subst this
        show VR A (k + 1) (fup G.2 G.1 x G.1)
        rw [fup_at]; exact hx
theorem lp_spr {A : Ab} {k a b s : Nat} (hW : WF A) (hk : k < kN A) {r : Nat} (hr : VR A k r) : ∀ {n j : Nat} {G : Li}, LPr A k a b G → j + n ≤ tk A k r + 1 → LPr A k a b (spr (kC A k) r n j G)
  | 0, _, _, h, _ => h
  | n + 1, j, G, h, hj => lp_spr (s := s) hW hk hr (n := n) (j := j + 1) (lp_ins h (vr_nxt hW hk hr (by omega))) (by omega)
theorem lp_lyr {A : Ab} {k a b : Nat} (hW : WF A) (hk : k < kN A) : ∀ {n s : Nat} {G : Li}, LPr A k a b G → s + n = b → a ≤ s → LPr A k a b (lyr A k n s G)
  | 0, _, _, h, _, _ => h
  | n + 1, s, G, h, hs, ha => lp_lyr hW hk (n := n) (s := s + 1) (lp_spr (s := s) hW hk (h.2.2.2.2.1 s ha (by omega)) h (by omega)) (by omega) (by omega)
theorem lv_lp {A : Ab} {k a : Nat} {G : Li} (h : LV A k a G) : LPr A k a G.1 G :=
  ⟨h.1, Nat.le_refl _, h.2.1, h.2.2.1, h.2.2.2, fun i h1 h2 => absurd h2 (by omega)⟩
theorem lp_lv {A : Ab} {k a b : Nat} {G : Li} (h : LPr A k a b G) : LV A (k + 1) b G := by
  obtain ⟨h1, h2, h3, h4, h5, h6⟩ := h
  refine ⟨h2, h3, fun i hi => ?_, h6⟩
  by_cases e : i < a
  · obtain ⟨m, hm, hv⟩ := h4 i e
    exact ⟨m, by omega, hv⟩
  · exact ⟨k, by omega, h5 i (by omega) hi⟩
theorem pr_lv {A : Ab} (hW : WF A) : ∀ {k : Nat}, k ≤ kN A → LV A k (pr A k).2 (pr A k).1
  | 0, _ => ⟨Nat.zero_le _, fun i j hi hj _ => by
      have hi' : i < 1 := hi
      have hj' : j < 1 := hj
      omega, fun i hi => absurd hi (Nat.not_lt_zero i), fun _ _ _ => vr_0 hW⟩
  | k + 1, hk => by
    have ih := pr_lv hW (k := k) (by omega)
    have h1 := ih.1
    exact lp_lv (lp_lyr hW (by omega) (lv_lp ih) (show (pr A k).2 + ((pr A k).1.1 - (pr A k).2) = (pr A k).1.1 by omega) (Nat.le_refl _))
theorem spr_has {c r : Nat} : ∀ {n j : Nat} {G : Li} {j' : Nat}, j ≤ j' → j' < j + n → ∃ i, i < (spr c r n j G).1 ∧ (spr c r n j G).2 i = nxt c r j'
  | 0, j, G, j', h1, h2 => by omega
  | n + 1, j, G, j', h1, h2 => by
    by_cases e : j' = j
    · subst e
      obtain ⟨i, hi, e⟩ := ins_has G (nxt c r j')
      have hp := pf_spr (c := c) (r := r) (n := n) (j := j' + 1) (G := ins G (nxt c r j'))
      exact ⟨i, Nat.lt_of_lt_of_le hi hp.1, (hp.2 i hi).trans e⟩
    · exact spr_has (n := n) (j := j + 1) (by omega) (by omega)
theorem lyr_has {A : Ab} {k : Nat} : ∀ {n s : Nat} {G : Li} {s' j : Nat}, s + n ≤ G.1 → s ≤ s' → s' < s + n → j ≤ tk A k (G.2 s') → ∃ i, i < (lyr A k n s G).1 ∧ (lyr A k n s G).2 i = nxt (kC A k) (G.2 s') j
  | 0, s, G, s', j, _, h1, h2, _ => by omega
  | n + 1, s, G, s', j, hG, h1, h2, h3 => by
    have hp := pf_spr (c := kC A k) (r := G.2 s) (n := tk A k (G.2 s) + 1) (j := 0) (G := G)
    have hp1 := hp.1
    by_cases e : s' = s
    · subst e
      obtain ⟨i, hi, e⟩ := spr_has (c := kC A k) (r := G.2 s') (n := tk A k (G.2 s') + 1) (j := 0) (G := G) (j' := j) (by omega) (by omega)
      have hp2 := pf_lyr (A := A) (k := k) (n := n) (s := s' + 1) (G := spr (kC A k) (G.2 s') (tk A k (G.2 s') + 1) 0 G)
      exact ⟨i, Nat.lt_of_lt_of_le hi hp2.1, (hp2.2 i hi).trans e⟩
    · have e2 := hp.2 s' (by omega)
      have := lyr_has (A := A) (k := k) (n := n) (s := s + 1) (G := spr (kC A k) (G.2 s) (tk A k (G.2 s) + 1) 0 G) (s' := s') (j := j) (by omega) (by omega) (by omega) (by rw [e2]; exact h3)
      rw [e2] at this
      exact this
/-! The final list -/
theorem gn_pf {A : Ab} {k : Nat} (hk : k ≤ kN A) : Pf (pr A k).1 (GN A) := by
  have := pf_pr (A := A) (k := k) (d := kN A - k)
  rw [show k + (kN A - k) = kN A by omega] at this
  exact this
theorem gn_len (A : Ab) : (GN A).1 = sT A (kN A + 1) := rfl
theorem sT_le {A : Ab} (hW : WF A) {k : Nat} (hk : k ≤ kN A) : sT A k ≤ sT A (k + 1) := (pr_lv hW hk).1
theorem sT_len {A : Ab} {k : Nat} (hk : k ≤ kN A) : sT A (k + 1) ≤ (GN A).1 := (gn_pf hk).1
theorem sT_mono {A : Ab} (hW : WF A) : ∀ {d k : Nat}, k + d ≤ kN A + 1 → sT A k ≤ sT A (k + d)
  | 0, _, _ => Nat.le_refl _
  | d + 1, k, h => Nat.le_trans (sT_mono hW (d := d) (k := k) (by omega)) (sT_le hW (k := k + d) (by omega))
theorem gn_nd {A : Ab} (hW : WF A) : Nd (GN A) := (pr_lv hW (Nat.le_refl _)).2.1
theorem gn_vr {A : Ab} (hW : WF A) {k i : Nat} (hk : k ≤ kN A) (h1 : sT A k ≤ i) (h2 : i < sT A (k + 1)) : VR A k ((GN A).2 i) := by
  rw [(gn_pf hk).2 i h2]
  exact (pr_lv hW hk).2.2.2 i h1 h2
theorem gn_lay {A : Ab} (hW : WF A) {i : Nat} : ∀ {k : Nat}, k ≤ kN A → i < sT A (k + 1) → ∃ m, m ≤ k ∧ sT A m ≤ i ∧ i < sT A (m + 1)
  | 0, _, h => ⟨0, Nat.le_refl _, Nat.zero_le _, h⟩
  | k + 1, hk, h => by
    by_cases e : sT A (k + 1) ≤ i
    · exact ⟨k + 1, Nat.le_refl _, e, h⟩
    · obtain ⟨m, h1, h2⟩ := gn_lay hW (k := k) (by omega) (Nat.lt_of_not_le e)
      exact ⟨m, by omega, h2⟩
theorem gn_layer {A : Ab} (hW : WF A) {i k : Nat} (hk : k ≤ kN A) (hi : i < (GN A).1) (hv : (GN A).2 i / 16 ^ 13 = k) : sT A k ≤ i ∧ i < sT A (k + 1) := by
  obtain ⟨m, hm, h1, h2⟩ := gn_lay hW (Nat.le_refl _) hi
  have h3 := (gn_vr hW hm h1 h2).1
  have : m = k := by omega
  subst this
  exact ⟨h1, h2⟩
theorem gn_next {A : Ab} (hW : WF A) {k s j : Nat} (hk : k < kN A) (h1 : sT A k ≤ s) (h2 : s < sT A (k + 1)) (hj : j ≤ tk A k ((GN A).2 s)) : ∃ i, sT A (k + 1) ≤ i ∧ i < sT A (k + 2) ∧ i < (GN A).1 ∧ (GN A).2 i = nxt (kC A k) ((GN A).2 s) j := by
  have hv := gn_vr hW (by omega) h1 h2
  have e := (gn_pf (A := A) (k := k) (by omega)).2 s h2
  rw [e] at hj
  obtain ⟨i, hi, ei⟩ := lyr_has (A := A) (k := k) (n := (pr A k).1.1 - (pr A k).2) (s := (pr A k).2) (G := (pr A k).1) (s' := s) (j := j) (by have := (pr_lv hW (k := k) (by omega)).1; omega) h1 (by have h2' : s < (pr A k).1.1 := h2; have := (pr_lv hW (k := k) (by omega)).1; omega) hj
  have hi' : i < sT A (k + 2) := hi
  have hlen := sT_len (A := A) (k := k + 1) (by omega)
  have ei2 : (GN A).2 i = nxt (kC A k) ((GN A).2 s) j := by
    rw [(gn_pf (A := A) (k := k + 1) (by omega)).2 i hi, e]; exact ei
  have hv2 := vr_nxt hW hk hv (by rw [e]; exact hj)
  rw [← ei2] at hv2
  have hl := gn_layer hW (k := k + 1) (by omega) (Nat.lt_of_lt_of_le hi' hlen) hv2.1
  exact ⟨i, hl.1, hi', Nat.lt_of_lt_of_le hi' hlen, ei2⟩
theorem sT_0 (A : Ab) : sT A 0 = 0 := rfl
theorem sT_1 (A : Ab) : sT A 1 = 1 := rfl
theorem gn_0 {A : Ab} : (GN A).2 0 = 0 := (gn_pf (A := A) (k := 0) (Nat.zero_le _)).2 0 (show 0 < 1 by decide)
