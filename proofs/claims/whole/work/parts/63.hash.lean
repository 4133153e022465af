/-! The pure side: rows of the tally and its table of places. -/
theorem mmin_j {a b : Nat} (ha : a < 2147483648) (hb : b < 2147483648) : mminI (jI a) (jI b) = jI (min a b) := by
  unfold mminI
  by_cases h : b < a
  · rw [if_pos ((jI_lt hb ha).mpr h), Nat.min_eq_right (by omega)]
  · rw [if_neg (fun e => h ((jI_lt hb ha).mp e)), Nat.min_eq_left (by omega)]
theorem p2_16 (q : Nat) : 2 ^ (4 * q) = 16 ^ q := by rw [Nat.pow_mul]
theorem s_field {r q : Nat} {z : St} {Q : Int32 → St → Prop} (hr : r < 9223372036854775808) (hq : q < 13) (h : Q (jI (hd r q)) z) : P_T_field (jL r) (jI q) z Q := by
  show Q _ z
  rw [show (4 : Int32) = jI 4 from rfl, jI_mul, fld hr (by omega), p2_16]
  exact h
theorem one_16 {q : Nat} (hq : q < 12) : (1 : Int64) <<< (((4 : Int32) * jI q).toInt64 &&& 63) = jL (16 ^ q) := by
  rw [show (4 : Int32) = jI 4 from rfl, jI_mul, sh_63 _ (by omega), sh_1 _ (by omega), p2_16]
theorem s_oneMore {c : Nat} {z : St} {Q : Int64 → St → Prop} (hc : c < 64) (h : Q (jL (16 ^ 12 + ad c)) z) : P_T_oneMoreOf (jI c) z Q := by
  have b0 := q0_lt c
  have b1 := q1_lt c
  have b2 := q2_lt c
  refine ⟨4, fun e => absurd e (by decide), fun _ => s_valueIn (t := 0) hc (by decide) (ex1 (ex1 ?_))⟩
  refine ⟨fun e => absurd e (by decide), fun _ => s_valueIn (t := 1) hc (by decide) (ex1 (ex1 ?_))⟩
  refine ⟨fun e => absurd e (by decide), fun _ => s_valueIn (t := 2) hc (by decide) (ex1 (ex1 ?_))⟩
  refine ⟨fun _ => ?_, fun e => absurd (by decide) e⟩
  rw [show ((0 : Int32) * 4 + jI (dg c 0)) = jI (q0 c) by rw [show (0 : Int32) * 4 = jI 0 from rfl, jI_add, Nat.zero_add]; rfl]
  rw [show ((0 : Int32) + 1) * 4 + jI (dg c 1) = jI (q1 c) by rw [show ((0 : Int32) + 1) * 4 = jI 4 from rfl, jI_add]; rfl]
  rw [show ((0 : Int32) + 1 + 1) * 4 + jI (dg c 2) = jI (q2 c) by rw [show ((0 : Int32) + 1 + 1) * 4 = jI 8 from rfl, jI_add]; rfl]
  rw [one_16 (by omega), one_16 (by omega), one_16 (by omega), show (281474976710656 : Int64) = jL (16 ^ 12) from rfl, jL_add, jL_add, jL_add]
  unfold ad at h
  rw [← Nat.add_assoc, ← Nat.add_assoc] at h
  exact h
theorem s_takes {A : Ab} {k r : Nat} {z : St} {Q : Int32 → St → Prop} (hW : WF A) (hk : k < kN A) (hv : VR A k r) (oK : OK A z) (hq8 : ∀ q, q < 12 → z.1 8 q = jI (hI A q)) (h : Q (jI (tk A k r)) z) : P_T_takesFrom (jL r) (jI k) (jI (sZ A)) z Q := by
  have hk16 := hW.2.1
  have hK := hW.2.2.1.2.1 k hk
  have hr := vr_lt (by omega) hv
  have hr2 : r < 9223372036854775808 := Nat.lt_of_lt_of_le hr (by decide)
  have h40 := hW.1
  have hle := kH_le hW.2.2.1 hk
  have b0 := q0_lt (kC A k)
  have b1 := q1_lt (kC A k)
  have b2 := q2_lt (kC A k)
  have i0 := (hW.2.2.2.2.2.1 (q0 (kC A k)) (by omega)).2
  have i1 := (hW.2.2.2.2.2.1 (q1 (kC A k)) (by omega)).2
  have i2 := (hW.2.2.2.2.2.1 (q2 (kC A k)) (by omega)).2
  have g0 := (hv.2.2.2 (q0 (kC A k)) (by omega)).1
  have g1 := (hv.2.2.2 (q1 (kC A k)) (by omega)).1
  have g2 := (hv.2.2.2 (q2 (kC A k)) (by omega)).1
  have i8 := hW.2.2.2.2.2.2.2
  have gs := hv.2.2.1
  unfold P_T_takesFrom
  rw [jI_tn (by omega)]
  refine ⟨vp_n (by omega) (by decide), s_field (q := 12) hr2 (by decide) (ex1 ⟨4, ?_⟩)⟩
  rw [oK.2.2 k hk, jI_sub gs, mmin_j (by omega) (by omega)]
  have e0 : (0 : Int32) * 4 + jI (dg (kC A k) 0) = jI (q0 (kC A k)) := by rw [show (0 : Int32) * 4 = jI 0 from rfl, jI_add, Nat.zero_add]; rfl
  have e1 : ((0 : Int32) + 1) * 4 + jI (dg (kC A k) 1) = jI (q1 (kC A k)) := by rw [show ((0 : Int32) + 1) * 4 = jI 4 from rfl, jI_add]; rfl
  have e2 : ((0 : Int32) + 1 + 1) * 4 + jI (dg (kC A k) 2) = jI (q2 (kC A k)) := by rw [show ((0 : Int32) + 1 + 1) * 4 = jI 8 from rfl, jI_add]; rfl
  refine ⟨fun e => absurd e (by decide), fun _ => ⟨vp_n (by omega) (by decide), ?_⟩⟩
  rw [jI_tn (by omega), oK.2.1 k hk]
  refine s_valueIn (t := 0) hK.1 (by decide) ?_
  show vp_in ((0 : Int32) * 4 + jI (dg (kC A k) 0)) 12 ∧ P_T_field _ ((0 : Int32) * 4 + jI (dg (kC A k) 0)) z _
  rw [e0]
  refine ⟨vp_n (by omega) (by decide), s_field hr2 (by omega) (ex1 (ex1 ?_))⟩
  rw [jI_tn (by omega), hq8 _ (by omega), jI_sub g0, mmin_j (by omega) (by omega)]
  refine ⟨fun e => absurd e (by decide), fun _ => ⟨vp_n (by omega) (by decide), ?_⟩⟩
  rw [jI_tn (by omega), oK.2.1 k hk]
  refine s_valueIn (t := 1) hK.1 (by decide) ?_
  show vp_in (((0 : Int32) + 1) * 4 + jI (dg (kC A k) 1)) 12 ∧ P_T_field _ (((0 : Int32) + 1) * 4 + jI (dg (kC A k) 1)) z _
  rw [e1]
  refine ⟨vp_n (by omega) (by decide), s_field hr2 (by omega) (ex1 (ex1 ?_))⟩
  rw [jI_tn (by omega), hq8 _ (by omega), jI_sub g1, mmin_j (by omega) (by omega)]
  refine ⟨fun e => absurd e (by decide), fun _ => ⟨vp_n (by omega) (by decide), ?_⟩⟩
  rw [jI_tn (by omega), oK.2.1 k hk]
  refine s_valueIn (t := 2) hK.1 (by decide) ?_
  show vp_in (((0 : Int32) + 1 + 1) * 4 + jI (dg (kC A k) 2)) 12 ∧ P_T_field _ (((0 : Int32) + 1 + 1) * 4 + jI (dg (kC A k) 2)) z _
  rw [e2]
  refine ⟨vp_n (by omega) (by decide), s_field hr2 (by omega) (ex1 (ex1 ?_))⟩
  rw [jI_tn (by omega), hq8 _ (by omega), jI_sub g2, mmin_j (by omega) (by omega)]
  exact ⟨fun _ => h, fun e => absurd (by decide) e⟩
/-! The table of places. -/
def hC (a : Int64) : Nat := (a * (-7046029254386353131 : Int64)).toUInt64.toNat / 2 ^ 53
theorem hC_lt (a : Int64) : hC a < 2048 := by
  unfold hC
  have := UInt64.toNat_lt (a * (-7046029254386353131 : Int64)).toUInt64
  omega
theorem hC_eq (a : Int64) : ((((a * (-7046029254386353131 : Int64)).toUInt64 >>> ((53 : Int32).toInt64.toUInt64 &&& Int64.toUInt64 63)).toInt64).toInt32) = jI (hC a) := by
  have hlt := hC_lt a
  rw [show ((53 : Int32).toInt64.toUInt64 &&& Int64.toUInt64 63) = (53 : UInt64) from by decide]
  have e : ((a * (-7046029254386353131 : Int64)).toUInt64 >>> (53 : UInt64)).toInt64 = jL (hC a) := by
    apply Int64.toBitVec_inj.mp
    show ((a * (-7046029254386353131 : Int64)).toUInt64 >>> (53 : UInt64)).toBitVec = BitVec.ofNat 64 (hC a)
    apply BitVec.eq_of_toNat_eq
    rw [BitVec.toNat_ofNat, Nat.mod_eq_of_lt (by omega)]
    show ((a * (-7046029254386353131 : Int64)).toUInt64 >>> (53 : UInt64)).toNat = hC a
    rw [UInt64.toNat_shiftRight, Nat.shiftRight_eq_div_pow]
    rfl
  rw [e, jL_toI]
theorem pig : ∀ (m n : Nat) (f : Nat → Nat), (∀ i, i < n → f i < m) → (∀ i j, i < n → j < n → f i = f j → i = j) → n ≤ m
  | 0, n, f, h1, _ => by
    by_cases e : n = 0
    · omega
    · exact absurd (h1 0 (by omega)) (Nat.not_lt_zero _)
  | m + 1, 0, _, _, _ => Nat.zero_le _
  | m + 1, n + 1, f, h1, h2 => by
    have := pig m n (fun i => if f i = m then f n else f i) (fun i hi => ?_) (fun i j hi hj e => ?_)
    · omega
    · have a1 := h1 i (by omega)
      have a2 := h1 n (by omega)
      show (if f i = m then f n else f i) < m
      by_cases e : f i = m
      · rw [if_pos e]
        by_cases e2 : f n = m
        · have := h2 i n (by omega) (by omega) (e.trans e2.symm); omega
        · omega
      · rw [if_neg e]; omega
    · have e' : (if f i = m then f n else f i) = (if f j = m then f n else f j) := e
      by_cases ei : f i = m
      · by_cases ej : f j = m
        · exact h2 i j (by omega) (by omega) (ei.trans ej.symm)
        · rw [if_pos ei, if_neg ej] at e'
          have := h2 n j (by omega) (by omega) e'; omega
      · by_cases ej : f j = m
        · rw [if_neg ei, if_pos ej] at e'
          have := h2 i n (by omega) (by omega) e'; omega
        · rw [if_neg ei, if_neg ej] at e'
          exact h2 i j (by omega) (by omega) e'
/-- the table of places holds each row of the list, to be reached from its own place -/
def HT (G : Li) (z : St) : Prop := ∃ sl : Nat → Nat, (∀ i, i < G.1 → sl i < 2048 ∧ z.1 16 (sl i) = jI i) ∧ (∀ h, h < 2048 → z.1 16 h = -1 ∨ ∃ i, i < G.1 ∧ z.1 16 h = jI i ∧ sl i = h) ∧ ∀ i, i < G.1 → ∃ n, n < 2048 ∧ sl i = (hC (jL (G.2 i)) + n) % 2048 ∧ ∀ m, m < n → ¬ z.1 16 ((hC (jL (G.2 i)) + m) % 2048) = -1
theorem jI_m1 {n : Nat} (h : n < 2147483648) : ¬ jI n = -1 := fun e => by
  have := jI_nn h
  rw [e] at this
  exact this (by decide)
abbrev Sn : Nat → Nat → Bool := fun c k => c == 10 || (c == 13 || (c == 16 || (c == 9 && k == 10)))
theorem and_2047 (a : Nat) : a &&& 2047 = a % 2048 := Nat.and_two_pow_sub_one_eq_mod a 11
theorem jI_2047 (a : Nat) : jI a + 1 &&& 2047 = jI ((a + 1) % 2048) := by
  rw [jI_s, show (2047 : Int32) = jI 2047 from rfl, jI_and, and_2047]
theorem ht_full {G : Li} {z : St} {h0 : Nat} (hn : G.1 ≤ 1001) (hT : HT G z) (hh0 : h0 < 2048) (a1 : ∀ m', m' < 2048 → ¬ z.1 16 ((h0 + m') % 2048) = -1) : False := by
  obtain ⟨sl, t1, t2, t3⟩ := hT
  have ne : ∀ h, h < 2048 → ¬ z.1 16 h = -1 := by
    intro h hh
    have := a1 ((h + 2048 - h0) % 2048) (Nat.mod_lt _ (by decide))
    rw [show (h0 + (h + 2048 - h0) % 2048) % 2048 = h by omega] at this
    exact this
  have ex : ∀ h, h < 2048 → ∃ i, i < G.1 ∧ z.1 16 h = jI i ∧ sl i = h := fun h hh => (t2 h hh).resolve_left (ne h hh)
  have := pig G.1 2048 (fun h => (z.1 16 h).toNatClampNeg) (fun h hh => ?_) (fun i j hi hj e => ?_)
  · omega
  · obtain ⟨i, hi, e, _⟩ := ex h hh
    show (z.1 16 h).toNatClampNeg < G.1
    rw [e, jI_tn (by omega)]; exact hi
  · obtain ⟨a, ha, ea, sa⟩ := ex i hi
    obtain ⟨b, hb, eb, sb⟩ := ex j hj
    have e' : (z.1 16 i).toNatClampNeg = (z.1 16 j).toNatClampNeg := e
    rw [ea, eb, jI_tn (by omega), jI_tn (by omega)] at e'
    rw [← sa, ← sb, e']
theorem ht_new {G : Li} {z z' : St} {x m sv : Nat} (hn : G.1 ≤ 1001) (hT : HT G z) (hs : (hC (jL x) + m) % 2048 = sv) (hsl : sv < 2048) (hm : m < 2048) (e : z.1 16 sv = -1) (a1 : ∀ m', m' < m → ¬ z.1 16 ((hC (jL x) + m') % 2048) = -1) (rat : z'.1 16 sv = jI G.1) (r16 : ∀ h, h ≠ sv → z'.1 16 h = z.1 16 h) : HT (G.1 + 1, fup G.2 G.1 x) z' := by
  obtain ⟨sl, t1, t2, t3⟩ := hT
  have slne : ∀ i, i < G.1 → sl i ≠ sv := fun i hi e' => jI_m1 (n := i) (by omega) (by rw [← (t1 i hi).2, e']; exact e)
  have keep : ∀ h, ¬ z.1 16 h = -1 → ¬ z'.1 16 h = -1 := by
    intro h hh
    by_cases eh : h = sv
    · subst eh; exact absurd e hh
    · rw [r16 h eh]; exact hh
  refine ⟨fup sl G.1 sv, fun i hi => ?_, fun h hh => ?_, fun i hi => ?_⟩
  · have hi' : i < G.1 + 1 := hi
    by_cases ei : i = G.1
    · subst ei; rw [fup_at]; exact ⟨hsl, rat⟩
    · rw [fup_ne ei, r16 _ (slne i (by omega))]; exact t1 i (by omega)
  · show z'.1 16 h = -1 ∨ ∃ i, i < G.1 + 1 ∧ z'.1 16 h = jI i ∧ fup sl G.1 sv i = h
    by_cases eh : h = sv
    · subst eh; exact Or.inr ⟨G.1, Nat.lt_succ_self _, rat, fup_at⟩
    · rw [r16 h eh]
      rcases t2 h hh with e2 | ⟨i, hi, e2, e3⟩
      · exact Or.inl e2
      · exact Or.inr ⟨i, by omega, e2, by rw [fup_ne (by omega)]; exact e3⟩
  · have hi' : i < G.1 + 1 := hi
    show ∃ n, n < 2048 ∧ fup sl G.1 sv i = (hC (jL (fup G.2 G.1 x i)) + n) % 2048 ∧ ∀ m, m < n → ¬ z'.1 16 ((hC (jL (fup G.2 G.1 x i)) + m) % 2048) = -1
    by_cases ei : i = G.1
    · subst ei
      rw [fup_at, fup_at]
      exact ⟨m, hm, hs.symm, fun m' hm' => keep _ (a1 m' hm')⟩
    · rw [fup_ne ei, fup_ne ei]
      obtain ⟨n, h1, h2, h3⟩ := t3 i (by omega)
      exact ⟨n, h1, h2, fun m' hm' => keep _ (h3 m' hm')⟩
theorem ht_no {G : Li} {z : St} {x m : Nat} (hn : G.1 ≤ 1001) (hT : HT G z) (e : z.1 16 ((hC (jL x) + m) % 2048) = -1) (a2 : ∀ m', m' < m → ∀ i, i < G.1 → z.1 16 ((hC (jL x) + m') % 2048) = jI i → G.2 i ≠ x) : ∀ i, i < G.1 → G.2 i ≠ x := by
  obtain ⟨sl, t1, t2, t3⟩ := hT
  intro i hi ei
  obtain ⟨n, hn', en, hp⟩ := t3 i hi
  rw [ei] at en hp
  by_cases c1 : n < m
  · exact a2 n c1 i hi (by rw [← en]; exact (t1 i hi).2) ei
  · by_cases c2 : n = m
    · subst c2
      rw [← en, (t1 i hi).2] at e
      exact jI_m1 (by omega) e
    · exact hp m (by omega) e
theorem s_enter {G : Li} {x m sv : Nat} {z : St} {Q : Int32 → St → Prop} (hn : G.1 ≤ 1001) (h9 : z.1 9 10 = jI G.1) (h10 : ∀ i, i < G.1 → z.2 10 i = jL (G.2 i)) (hT : HT G z) (hs : (hC (jL x) + m) % 2048 = sv) (hsl : sv < 2048) (hm : m < 2048) (e : z.1 16 sv = -1) (a1 : ∀ m', m' < m → ¬ z.1 16 ((hC (jL x) + m') % 2048) = -1)
    (new : G.1 < 1001 → ∀ z', Fz Sn z z' → HT (G.1 + 1, fup G.2 G.1 x) z' → z'.1 9 10 = jI (G.1 + 1) → (∀ i, i < G.1 + 1 → z'.2 10 i = jL (fup G.2 G.1 x i)) → (∀ i, i ≠ G.1 → z'.1 13 i = z.1 13 i) → z'.1 13 G.1 = -1 → Q (jI G.1) z')
    (full : G.1 = 1001 → Q 0 (wI z 9 11 1)) : P_T_enter (jL x) (jI sv) z Q := by
  unfold P_T_enter
  rw [h9, show (1001 : Int32) = jI 1001 from rfl, jI_lt (by omega) (by decide)]
  refine ⟨fun hlt => ⟨vp_n hsl (by decide), ex1 ?_⟩, fun hge => ex1 (full (by omega))⟩
  rw [jI_tn (n := sv) (by omega)]
  rw [show (wI z 16 sv (jI G.1)).1 9 10 = jI G.1 from h9, jI_tn (by omega)]
  refine ⟨vp_n hlt (by decide), ex1 ?_⟩
  rw [show (wL (wI z 16 sv (jI G.1)) 10 G.1 (jL x)).1 9 10 = jI G.1 from h9, jI_tn (by omega)]
  refine ⟨vp_n hlt (by decide), ex1 (ex1 ?_)⟩
  rw [show (wI (wL (wI z 16 sv (jI G.1)) 10 G.1 (jL x)) 13 G.1 (-1)).1 9 10 = jI G.1 from h9]
  refine new hlt _ (fz_I (fz_I (fz_L (fz_I fz_rfl rfl) rfl) rfl) rfl) (ht_new hn hT hs hsl hm e a1 ?_ (fun h hh => ?_)) (jI_s _) (fun i hi => ?_) (fun i hi => zI_ne (z := wL (wI z 16 sv (jI G.1)) 10 G.1 (jL x)) (c := 13) hi) (zI_at (z := wL (wI z 16 sv (jI G.1)) 10 G.1 (jL x)) (c := 13))
  · exact zI_at (z := z) (c := 16)
  · exact zI_ne (z := z) (c := 16) hh
  · show (wL (wI z 16 sv (jI G.1)) 10 G.1 (jL x)).2 10 i = jL (fup G.2 G.1 x i)
    by_cases ei : i = G.1
    · subst ei; rw [zL_at, fup_at]
    · rw [zL_ne ei, fup_ne ei]; exact h10 i (by omega)
theorem s_stateOf {G : Li} {x : Nat} {z : St} {Q : Int32 → St → Prop} (hn : G.1 ≤ 1001) (hx : x < 9223372036854775808) (hr : ∀ i, i < G.1 → G.2 i < 9223372036854775808) (h9 : z.1 9 10 = jI G.1) (h10 : ∀ i, i < G.1 → z.2 10 i = jL (G.2 i)) (hT : HT G z)
    (old : ∀ i, i < G.1 → G.2 i = x → Q (jI i) z)
    (new : (∀ i, i < G.1 → G.2 i ≠ x) → G.1 < 1001 → ∀ z', Fz Sn z z' → HT (G.1 + 1, fup G.2 G.1 x) z' → z'.1 9 10 = jI (G.1 + 1) → (∀ i, i < G.1 + 1 → z'.2 10 i = jL (fup G.2 G.1 x i)) → (∀ i, i ≠ G.1 → z'.1 13 i = z.1 13 i) → z'.1 13 G.1 = -1 → Q (jI G.1) z')
    (full : (∀ i, i < G.1 → G.2 i ≠ x) → G.1 = 1001 → Q 0 (wI z 9 11 1)) : P_T_stateOf (jL x) z Q := by
  have h0 := hC_lt (jL x)
  have loop : ∀ (d m : Nat), m + d = 2048 → (∀ m', m' < m → ¬ z.1 16 ((hC (jL x) + m') % 2048) = -1) → (∀ m', m' < m → ∀ i, i < G.1 → z.1 16 ((hC (jL x) + m') % 2048) = jI i → G.2 i ≠ x) → L_T_stateOf_13 (fun (x5 : Int64) (x6 : Int32) (z7 : St) => P_T_enter x5 x6 z7 (fun (x9 : Int32) (z8 : St) => Q x9 z8)) Q (d + 1) (jL x) (jI ((hC (jL x) + m) % 2048)) (jI m) z := by
    intro d
    induction d with
    | zero =>
      intro m hm a1 _
      have hm' : m = 2048 := by omega
      subst hm'
      exact (ht_full hn hT h0 a1).elim
    | succ d ih =>
      intro m hm a1 a2
      have hsl : (hC (jL x) + m) % 2048 < 2048 := Nat.mod_lt _ (by decide)
      have t2 : z.1 16 ((hC (jL x) + m) % 2048) = -1 ∨ ∃ i, i < G.1 ∧ z.1 16 ((hC (jL x) + m) % 2048) = jI i := by
        obtain ⟨sl, t1, t2, t3⟩ := id hT
        rcases t2 _ hsl with e | ⟨i, hi, e, _⟩
        · exact Or.inl e
        · exact Or.inr ⟨i, hi, e⟩
      refine ⟨fun e => absurd e ?_, fun _ => ⟨vp_n hsl (by decide), ?_⟩⟩
      · rw [show (2048 : Int32) = jI 2048 from rfl, jI_le (by decide) (by omega)]; omega
      rw [jI_tn (by omega)]
      rcases t2 with e | ⟨i, hi, e⟩
      · have hno := ht_no hn hT e a2
        refine ex1 ⟨fun h => absurd h ?_, fun _ => ?_⟩
        · rw [e]; decide
        exact s_enter hn h9 h10 hT rfl hsl (by omega) e a1 (new hno) (full hno)
      · refine ex1 ⟨fun _ => ?_, fun h => absurd (by rw [e]; exact jI_0le (by omega)) h⟩
        rw [e, jI_tn (by omega), h10 i hi]
        refine ⟨vp_n (by omega) (by decide), fun hne => ex1 (ex1 ?_), fun he => old i hi ((jL_eq (hr i hi) hx).mp he)⟩
        rw [jI_2047, jI_s, show ((hC (jL x) + m) % 2048 + 1) % 2048 = (hC (jL x) + (m + 1)) % 2048 by omega]
        refine ih (m + 1) (by omega) (fun m' hm' => ?_) (fun m' hm' i' hi' e' => ?_)
        · by_cases c : m' = m
          · subst c; rw [e]; exact jI_m1 (by omega)
          · exact a1 m' (by omega)
        · by_cases c : m' = m
          · subst c
            rw [e, jI_eq (by omega) (by omega)] at e'
            subst e'
            exact fun e2 => hne ((jL_eq (hr _ hi) hx).mpr e2)
          · exact a2 m' (by omega) i' hi' e'
  obtain ⟨d, hd⟩ : ∃ d : Nat, d = 2048 := ⟨_, rfl⟩
  have h1 := loop d 0 (by omega) (fun m' h => absurd h (Nat.not_lt_zero _)) (fun m' h => absurd h (Nat.not_lt_zero _))
  rw [show (hC (jL x) + 0) % 2048 = hC (jL x) by omega] at h1
  unfold P_T_stateOf
  rw [hC_eq]
  exact ex1 ⟨_, h1⟩
