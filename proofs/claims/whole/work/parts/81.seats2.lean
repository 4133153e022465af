/-! The pure side: the reference's breach; who sits where. -/
/-- the reference's part of the seats -/
def STR (A : Ab) (se : Nat → Nat) (z : St) : Prop := (∀ i, i < sZ A → z.1 44 i = sv (se i)) ∧ (∀ i, i < sZ A → se i ≤ aN A) ∧ ∀ i i', i < sZ A → i' < sZ A → se i = se i' → se i ≠ 0 → i = i'
theorem st_r {A : Ab} {se : Nat → Nat} {z : St} (h : ST A se z) : STR A se z := ⟨fun i hi => (h.2.1 i hi).2, h.2.2⟩
theorem sv_nn {n : Nat} (h : n < 2147483648) (h0 : n ≠ 0) : sv n = jI (n - 1) := by
  cases n with
  | zero => exact absurd rfl h0
  | succ n => rfl
theorem m_breach {A : Ab} {se : Nat → Nat} {x : Nat} {z : St} {Q : Int32 → St → Prop} (hW : WF A) (rP : RP A z) (rV : RV A z) (rQ : RQ A z) (rS : RS A z) (hS : STR A se z) (hx : x ≤ aN A) (h : Q (jI (br A se x)) z) : P_M_breachWith (sv x) z Q := by
  have i8 := hW.2.2.2.2.2.2.2
  have h40 := hW.1
  -- the value of a person
  have val : ∀ (y t : Nat), y ≠ 0 → y ≤ aN A → t < 3 → (3 : Int32) * sv y + jI t = jI (3 * (y - 1) + t) ∧ z.1 32 (3 * (y - 1) + t) = jI (dg (aC A (y - 1)) t) := by
    intro y t hy hya ht
    rw [sv_nn (by omega) hy, show (3 : Int32) = jI 3 from rfl, jI_mul, jI_add]
    exact ⟨rfl, rP.2 (y - 1) (by omega) t ht⟩
  have hv : ∀ (y t v : Nat), t < 3 → v < 4 → hit A y (4 * t + v) = if y = 0 then 0 else if v = dg (aC A (y - 1)) t then 1 else 0 := by
    intro y t v ht hv
    unfold hit
    rw [show (4 * t + v) % 4 = v by omega, show (4 * t + v) / 4 = t by omega]
  -- one value of one trait: the count
  have l53 : ∀ (K : Int32 → Int32 → Int32 → Int32 → Int32 → St → Prop) (b : Int32) (t v c0 : Nat), t < 3 → v < 4 → c0 ≤ 1 → K (sv x) b (jI t) (jI v) (jI (vc A se (4 * t + v) (sZ A) + c0)) z → ∀ (d i : Nat), i + d = sZ A → L_M_breachWith_53 K Q (d + 1) (sv x) b (jI t) (jI v) (jI (vc A se (4 * t + v) i + c0)) (jI i) z := by
    intro K b t v c0 ht hv4 hc0 hK d
    induction d with
    | zero =>
      intro i hi
      refine ⟨fun _ => ?_, fun hn => absurd ?_ hn⟩
      · rw [show i = sZ A by omega]; exact hK
      · rw [show z.1 31 7 = jI (sZ A) from rS, jI_le (by omega) (by omega)]; omega
    | succ d ih =>
      intro i hi
      have e44 := hS.1 i (by omega)
      have hse := hS.2.1 i (by omega)
      have ih' := ih (i + 1) (by omega)
      have es : vc A se (4 * t + v) (i + 1) = vc A se (4 * t + v) i + hit A (se i) (4 * t + v) := rfl
      rw [es, hv (se i) t v ht hv4] at ih'
      have dl := dg_lt (aC A (se i - 1)) t
      refine ⟨fun h => absurd h ?_, fun _ => ⟨vp_n (by omega) (by decide), ?_⟩⟩
      · rw [show z.1 31 7 = jI (sZ A) from rS, jI_le (by omega) (by omega)]; omega
      rw [jI_tn (by omega), e44, sv_m1 (by omega)]
      refine ⟨fun h0 => ex1 (ex1 ?_), fun h0 => ⟨vp_n (by omega) (by decide), ?_⟩⟩
      · rw [if_pos h0, Nat.add_zero] at ih'
        rw [show (0 : Int32) = jI 0 from rfl, jI_add, jI_s]; exact ih'
      · rw [if_neg h0] at ih'
        obtain ⟨v1, v2⟩ := val (se i) t h0 hse ht
        rw [v1, jI_tn (by omega), v2, jI_eq (by omega) (by omega)]
        refine ⟨vp_n (by omega) (by decide), fun hne => ex1 (ex1 ?_), fun he => ex1 (ex1 ?_)⟩
        · rw [if_neg (fun e => hne e.symm), Nat.add_zero] at ih'
          rw [show (0 : Int32) = jI 0 from rfl, jI_add, jI_s]; exact ih'
        · rw [if_pos he.symm, show vc A se (4 * t + v) i + 1 + c0 = vc A se (4 * t + v) i + c0 + 1 by omega] at ih'
          rw [jI_s, jI_s]; exact ih'
  have l12 : ∀ (K : Int32 → Int32 → Int32 → St → Prop) (t b : Nat), t < 3 → b ≤ 1000 → K (sv x) (jI (b + bt A se x t (vS A t))) (jI t) z → ∀ (d v : Nat), v + d = vS A t → L_M_breachWith_12 K Q (d + 1) (sv x) (jI (b + bt A se x t v)) (jI t) (jI v) z := by
    intro K t b ht hb hK d
    have h4 := (hW.2.2.2.2.1 t ht).2
    induction d with
    | zero =>
      intro v hv'
      refine ⟨vp_n ht (by decide), fun _ => ?_, fun hn => absurd ?_ hn⟩
      · rw [show v = vS A t by omega]; exact hK
      · rw [jI_tn (by omega), rV t ht, jI_le (by omega) (by omega)]; omega
    | succ d ih =>
      intro v hv'
      have hl := hW.2.2.2.2.2.1 (4 * t + v) (by omega)
      have h1 := vc_le A se (4 * t + v) (sZ A)
      have h2 := hit_le A x (4 * t + v)
      have hbt := bt_le hW (se := se) (x := x) ht (n := v) (by omega)
      have ih' := ih (v + 1) (by omega)
      have es : b + bt A se x t (v + 1) = b + bt A se x t v + (lO A (4 * t + v) - (vc A se (4 * t + v) (sZ A) + hit A x (4 * t + v)) + (vc A se (4 * t + v) (sZ A) + hit A x (4 * t + v) - hI A (4 * t + v))) := by
        rw [Nat.add_assoc]; rfl
      rw [es] at ih'
      have dl := dg_lt (aC A (x - 1)) t
      -- the end of one value
      have fin : ∀ c : Nat, c = vc A se (4 * t + v) (sZ A) + hit A x (4 * t + v) → ∀ x11 : Int32, x11 = (4 : Int32) * jI t + jI v → vp_in x11 12 ∧ (((z.1 35 x11.toNatClampNeg) ≤ jI c) → vp_in x11 12 ∧ ((jI c ≤ (z.1 36 x11.toNatClampNeg)) → ∀ x12 : Int32, x12 = jI (b + bt A se x t v) + (0 : Int32) → ∀ x13 : Int32, x13 = jI v + 1 → L_M_breachWith_12 K Q (d + 1) (sv x) x12 (jI t) x13 z) ∧ ((¬ jI c ≤ (z.1 36 x11.toNatClampNeg)) → vp_in x11 12 ∧ ∀ x14 : Int32, x14 = jI (b + bt A se x t v) + (jI c - (z.1 36 x11.toNatClampNeg)) → ∀ x15 : Int32, x15 = jI v + 1 → L_M_breachWith_12 K Q (d + 1) (sv x) x14 (jI t) x15 z)) ∧ ((¬ (z.1 35 x11.toNatClampNeg) ≤ jI c) → vp_in x11 12 ∧ ∀ x16 : Int32, x16 = jI (b + bt A se x t v) + ((z.1 35 x11.toNatClampNeg) - jI c) → ∀ x17 : Int32, x17 = jI v + 1 → L_M_breachWith_12 K Q (d + 1) (sv x) x16 (jI t) x17 z) := by
        intro c hc
        rw [← hc] at ih'
        refine ex1 ?_
        rw [show (4 : Int32) = jI 4 from rfl, jI_mul, jI_add, jI_tn (by omega), rQ.1 _ (by omega), rQ.2 _ (by omega), jI_le (by omega) (by omega), jI_le (by omega) (by omega)]
        refine ⟨vp_n (by omega) (by decide), fun hge => ⟨vp_n (by omega) (by decide), fun hle => ex1 (ex1 ?_), fun hgt => ⟨vp_n (by omega) (by decide), ex1 (ex1 ?_)⟩⟩, fun hlt => ⟨vp_n (by omega) (by decide), ex1 (ex1 ?_)⟩⟩
        · rw [show lO A (4 * t + v) - c + (c - hI A (4 * t + v)) = 0 by omega] at ih'
          rw [show (0 : Int32) = jI 0 from rfl, jI_add, jI_s]; exact ih'
        · rw [show lO A (4 * t + v) - c + (c - hI A (4 * t + v)) = c - hI A (4 * t + v) by omega] at ih'
          rw [jI_sub (by omega), jI_add, jI_s]; exact ih'
        · rw [show lO A (4 * t + v) - c + (c - hI A (4 * t + v)) = lO A (4 * t + v) - c by omega] at ih'
          rw [jI_sub (by omega), jI_add, jI_s]; exact ih'
      have go0 : hit A x (4 * t + v) = 0 → J_M_breachWith_47 (L_M_breachWith_12 K Q (d + 1)) K Q (sv x) (jI (b + bt A se x t v)) (jI t) (jI v) z := by
        intro h0
        refine ⟨_, l53 _ _ t v 0 ht (by omega) (by omega) (fin _ (by rw [h0])) (sZ A) 0 (by omega)⟩
      refine ⟨vp_n ht (by decide), fun h => absurd h ?_, fun _ => ?_⟩
      · rw [jI_tn (by omega), rV t ht, jI_le (by omega) (by omega)]; omega
      rw [sv_m1 (by omega)]
      refine ⟨fun h0 => go0 ?_, fun h0 => ?_⟩
      · rw [hv x t v ht (by omega), if_pos h0]
      · obtain ⟨v1, v2⟩ := val x t h0 hx ht
        rw [v1, jI_tn (by omega), v2, jI_eq (by omega) (by omega)]
        refine ⟨vp_n (by omega) (by decide), fun hne => go0 ?_, fun he => ?_⟩
        · rw [hv x t v ht (by omega), if_neg h0, if_neg (fun e => hne e.symm)]
        · have h1' : hit A x (4 * t + v) = 1 := by rw [hv x t v ht (by omega), if_neg h0, if_pos he.symm]
          have := l53 (fun (x18 : Int32) (x19 : Int32) (x20 : Int32) (x21 : Int32) (x22 : Int32) (z23 : St) => ∀ x24 : Int32, x24 = ((4 : Int32) * x20) + x21 → vp_in x24 12 ∧ (((z23.1 35 x24.toNatClampNeg) ≤ x22) → vp_in x24 12 ∧ ((x22 ≤ (z23.1 36 x24.toNatClampNeg)) → ∀ x25 : Int32, x25 = x19 + (0 : Int32) → ∀ x26 : Int32, x26 = x21 + 1 → L_M_breachWith_12 K Q (d + 1) x18 x25 x20 x26 z23) ∧ ((¬ x22 ≤ (z23.1 36 x24.toNatClampNeg)) → vp_in x24 12 ∧ ∀ x27 : Int32, x27 = x19 + (x22 - (z23.1 36 x24.toNatClampNeg)) → ∀ x28 : Int32, x28 = x21 + 1 → L_M_breachWith_12 K Q (d + 1) x18 x27 x20 x28 z23)) ∧ ((¬ (z23.1 35 x24.toNatClampNeg) ≤ x22) → vp_in x24 12 ∧ ∀ x29 : Int32, x29 = x19 + ((z23.1 35 x24.toNatClampNeg) - x22) → ∀ x30 : Int32, x30 = x21 + 1 → L_M_breachWith_12 K Q (d + 1) x18 x29 x20 x30 z23)) (jI (b + bt A se x t v)) t v 1 ht (by omega) (Nat.le_refl _) (fin _ (by rw [h1'])) (sZ A) 0 (by omega)
          exact ⟨_, this⟩
  have b0 := bt_le hW (se := se) (x := x) (t := 0) (by decide) (hW.2.2.2.2.1 0 (by decide)).2
  have b1 := bt_le hW (se := se) (x := x) (t := 1) (by decide) (hW.2.2.2.2.1 1 (by decide)).2
  have v0 := (hW.2.2.2.2.1 0 (by decide)).2
  have v1 := (hW.2.2.2.2.1 1 (by decide)).2
  have i0 := fun K hK => l12 K 0 0 (by decide) (by omega) hK (vS A 0) 0 (by omega)
  have i1 := fun K hK => l12 K 1 (bt A se x 0 (vS A 0)) (by decide) (by omega) hK (vS A 1) 0 (by omega)
  have i2 := fun K hK => l12 K 2 (bt A se x 0 (vS A 0) + bt A se x 1 (vS A 1)) (by decide) (by omega) hK (vS A 2) 0 (by omega)
  refine ⟨4, fun e => absurd e (by decide), fun _ => ⟨_, i0 _ (ex1 ?_)⟩⟩
  rw [Nat.zero_add]
  refine ⟨fun e => absurd e (by decide), fun _ => ⟨_, i1 _ (ex1 ?_)⟩⟩
  refine ⟨fun e => absurd e (by decide), fun _ => ⟨_, i2 _ (ex1 ?_)⟩⟩
  exact ⟨fun _ => h, fun e => absurd (by decide) e⟩
/-- the place of a person, if there is one -/
theorem m_placeOf {A : Ab} {se : Nat → Nat} {n : Nat} {z : St} {Q : Int32 → St → Prop} (hW : WF A) (rS : RS A z) (hS : STR A se z) (hn : n < 2147483648) (hit : ∀ i, i < sZ A → se i = n + 1 → Q (jI i) z) (miss : (∀ i, i < sZ A → se i ≠ n + 1) → Q (-1) z) : P_M_placeOf (jI n) z Q := by
  have i8 := hW.2.2.2.2.2.2.2
  have h40 := hW.1
  have eqv : ∀ i, i < sZ A → (z.1 44 i = jI n ↔ se i = n + 1) := by
    intro i hi
    have hse := hS.2.1 i hi
    rw [hS.1 i hi]
    by_cases h0 : se i = 0
    · rw [h0]
      exact ⟨fun h => absurd h.symm (jI_m1 hn), fun h => by omega⟩
    · rw [sv_nn (by omega) h0, jI_eq (by omega) hn]; omega
  have loop : ∀ (d i : Nat) (y : Int32), i + d = sZ A → ((y = -1 ∧ ∀ j, j < i → se j ≠ n + 1) ∨ ∃ j, j < i ∧ y = jI j ∧ se j = n + 1) → L_M_placeOf_4 Q (d + 1) (jI n) y (jI i) z := by
    intro d
    induction d with
    | zero =>
      intro i y hi hy
      refine ⟨fun _ => ?_, fun hn => absurd ?_ hn⟩
      · rcases hy with ⟨e, hno⟩ | ⟨j, hj, e, hs⟩
        · rw [e]; exact miss (fun j hj => hno j (by omega))
        · rw [e]; exact hit j (by omega) hs
      · rw [show z.1 31 7 = jI (sZ A) from rS, jI_le (by omega) (by omega)]; omega
    | succ d ih =>
      intro i y hi hy
      refine ⟨fun h => absurd h ?_, fun _ => ⟨vp_n (by omega) (by decide), ?_⟩⟩
      · rw [show z.1 31 7 = jI (sZ A) from rS, jI_le (by omega) (by omega)]; omega
      rw [jI_tn (by omega), eqv i (by omega)]
      refine ⟨fun hne => ex1 ?_, fun he => ex1 ?_⟩
      · rw [jI_s]
        refine ih (i + 1) y (by omega) ?_
        rcases hy with ⟨e, hno⟩ | ⟨j, hj, e, hs⟩
        · refine Or.inl ⟨e, fun j hj => ?_⟩
          by_cases c : j = i
          · subst c; exact hne
          · exact hno j (by omega)
        · exact Or.inr ⟨j, by omega, e, hs⟩
      · rw [jI_s]
        exact ih (i + 1) (jI i) (by omega) (Or.inr ⟨i, by omega, rfl, he⟩)
  exact ⟨_, loop (sZ A) 0 (-1) (by omega) (Or.inl ⟨rfl, fun j hj => absurd hj (Nat.not_lt_zero j)⟩)⟩
