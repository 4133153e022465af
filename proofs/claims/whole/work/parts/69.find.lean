/-! The pure side: the reference looks a state up. -/
def hP (x : Nat) : Nat := (x ^^^ (x / 2 ^ 13) ^^^ (x / 2 ^ 29)) % 4096
theorem and_4095 (a : Nat) : a &&& 4095 = a % 4096 := Nat.and_two_pow_sub_one_eq_mod a 12
theorem hP_lt (x : Nat) : hP x < 4096 := Nat.mod_lt _ (by decide)
theorem m_place {x : Nat} {z : St} {Q : Int32 → St → Prop} (hx : x < 9223372036854775808) (h : Q (jI (hP x)) z) : P_M_place (jL x) z Q := by
  unfold P_M_place
  rw [show (13 : Int32).toInt64 &&& 63 = jL 13 from by decide, show (29 : Int32).toInt64 &&& 63 = jL 29 from by decide, jL_shr hx (by decide), jL_shr hx (by decide), jL_xor, jL_xor, jL_toI, show (4095 : Int32) = jI 4095 from rfl, jI_and, and_4095]
  exact h
/-- the place of a row -/
def pl (r : Nat) : Nat := hP (lo12 r + 977 * (r / 16 ^ 13))
theorem lo12_lt (r : Nat) : lo12 r < 16 ^ 12 := Nat.mod_lt _ (p16 12)
/-- one past the last row before the n-th that has this place -/
def lb (G : Li) (p : Nat) : Nat → Nat
  | 0 => 0
  | n + 1 => if 1 ≤ n ∧ pl (G.2 n) = p then n + 1 else lb G p n
theorem lb_cases (G : Li) (p : Nat) : ∀ m : Nat, (lb G p m = 0 ∧ ∀ i, 1 ≤ i → i < m → pl (G.2 i) ≠ p) ∨ ∃ i, lb G p m = i + 1 ∧ 1 ≤ i ∧ i < m ∧ pl (G.2 i) = p ∧ ∀ i', i < i' → i' < m → pl (G.2 i') ≠ p
  | 0 => Or.inl ⟨rfl, fun i _ h => absurd h (Nat.not_lt_zero i)⟩
  | m + 1 => by
    by_cases e : 1 ≤ m ∧ pl (G.2 m) = p
    · exact Or.inr ⟨m, if_pos e, e.1, Nat.lt_succ_self _, e.2, fun i' h1 h2 => by omega⟩
    · have e' : lb G p (m + 1) = lb G p m := if_neg e
      rw [e']
      rcases lb_cases G p m with ⟨h1, h2⟩ | ⟨i, h1, h2, h3, h4, h5⟩
      · refine Or.inl ⟨h1, fun i a b => ?_⟩
        by_cases c : i = m
        · subst c; exact fun h => e ⟨a, h⟩
        · exact h2 i a (by omega)
      · refine Or.inr ⟨i, h1, h2, by omega, h4, fun i' a b => ?_⟩
        by_cases c : i' = m
        · subst c; exact fun h => e ⟨by omega, h⟩
        · exact h5 i' a (by omega)
theorem lb_le (G : Li) (p m : Nat) : lb G p m ≤ m := by
  rcases lb_cases G p m with ⟨h, _⟩ | ⟨i, h, _, h3, _⟩ <;> omega
theorem lb_congr {G G' : Li} {p : Nat} : ∀ {m : Nat}, (∀ i, i < m → G'.2 i = G.2 i) → lb G' p m = lb G p m
  | 0, _ => rfl
  | m + 1, h => by
    show (if 1 ≤ m ∧ pl (G'.2 m) = p then m + 1 else lb G' p m) = (if 1 ≤ m ∧ pl (G.2 m) = p then m + 1 else lb G p m)
    rw [h m (by omega), lb_congr (fun i hi => h i (by omega))]
/-- heads and chains -/
def RH (G : Li) (z : St) : Prop := (∀ p, p < 4096 → z.1 43 p = jI (lb G p G.1)) ∧ ∀ i, 1 ≤ i → i < G.1 → z.1 42 i = jI (lb G (pl (G.2 i)) i)
def RR (G : Li) (z : St) : Prop := z.1 31 13 = jI G.1 ∧ z.1 31 12 = 0 ∧ 1 ≤ G.1 ∧ G.1 ≤ 1001 ∧ (∀ i, i < G.1 → z.2 40 i = jL (lo12 (G.2 i))) ∧ RH G z
theorem m_find {G : Li} {k x a b : Nat} {z : St} {Q : Int32 → St → Prop} (hR : RR G z) (hk : k ≤ 16) (ha : z.1 39 k = jI a) (ha1 : 1 ≤ a) (hb : z.1 39 (k + 1) = jI b) (hab : a < 2000 ∧ b < 2000) (hlay : ∀ i, i < G.1 → a ≤ i → i < b → G.2 i / 16 ^ 13 = k) (hx : x / 16 ^ 13 = k)
    (hit : ∀ i, i < G.1 → a ≤ i → i < b → lo12 (G.2 i) = lo12 x → Q (jI i) z) (miss : (∀ i, i < G.1 → a ≤ i → i < b → lo12 (G.2 i) ≠ lo12 x) → Q (-1) z) : P_M_find (jI k) (jL (lo12 x)) z Q := by
  obtain ⟨r13, r12, r1, r3, r40, h43, h42⟩ := hR
  have h12 : (16 : Nat) ^ 12 = 281474976710656 := rfl
  have hxl := lo12_lt x
  rw [h12] at hxl
  have loop : ∀ (n m : Nat), m < n → m ≤ G.1 → (∀ i, m ≤ i → i < G.1 → a ≤ i → i < b → lo12 (G.2 i) ≠ lo12 x) → L_M_find_20 Q n (jI k) (jL (lo12 x)) (jI (lb G (pl x) m) - 1) z := by
    intro n
    induction n with
    | zero => exact fun m hm => absurd hm (Nat.not_lt_zero m)
    | succ n ih =>
      intro m hm hmG hno
      rcases lb_cases G (pl x) m with ⟨h0, hnp⟩ | ⟨i, h1, hi1, him, hip, hnp⟩
      · rw [h0]
        refine ⟨fun _ => ?_, fun h => absurd (by decide) h⟩
        refine miss (fun i hi hai hib e => ?_)
        by_cases c : m ≤ i
        · exact hno i c hi hai hib e
        · refine hnp i (by omega) (by omega) ?_
          unfold pl
          rw [e, hlay i hi hai hib, hx]
      · rw [h1, jI_p (by omega), show i + 1 - 1 = i by omega]
        have hiG : i < G.1 := by omega
        have h42i := h42 i hi1 hiG
        rw [hip] at h42i
        have hlb := lb_le G (pl x) i
        have nxt : (∀ i', i ≤ i' → i' < G.1 → a ≤ i' → i' < b → lo12 (G.2 i') ≠ lo12 x) → L_M_find_20 Q n (jI k) (jL (lo12 x)) (jI (lb G (pl x) i) - 1) z := fun h => ih i (by omega) (by omega) h
        have above : ∀ i', i < i' → i' < G.1 → a ≤ i' → i' < b → lo12 (G.2 i') ≠ lo12 x := by
          intro i' c1 c2 c3 c4 e
          by_cases c : m ≤ i'
          · exact hno i' c c2 c3 c4 e
          · refine hnp i' c1 (by omega) ?_
            unfold pl
            rw [e, hlay i' c2 c3 c4, hx]
        have go : ¬ (a ≤ i ∧ i < b ∧ lo12 (G.2 i) = lo12 x) → L_M_find_20 Q n (jI k) (jL (lo12 x)) (jI (lb G (pl x) i) - 1) z := by
          intro hne
          refine nxt (fun i' c1 c2 c3 c4 e => ?_)
          by_cases c : i' = i
          · subst c; exact hne ⟨c3, c4, e⟩
          · exact above i' (by omega) c2 c3 c4 e
        have hil := lo12_lt (G.2 i)
        rw [h12] at hil
        refine ⟨fun h => absurd h (jI_nn (by omega)), fun _ => ?_⟩
        rw [jI_tn (by omega), r40 i hiG, h42i, jI_tn (by omega), ha, show (1 : Int32) = jI 1 from rfl, jI_add, jI_tn (by omega), hb, jI_lt (by omega) (by omega), jI_lt (by omega) (by omega), jL_eq (by omega) (by omega)]
        refine ⟨vp_n (by omega) (by decide), fun hne => ⟨vp_n (by omega) (by decide), ex1 (go (fun h => hne h.2.2))⟩, fun he => ⟨vp_n (by omega) (by decide), fun h => ⟨vp_n (by omega) (by decide), ex1 (go (fun h' => by omega))⟩, fun ha' => ⟨vp_n (by omega) (by decide), fun h => hit i hiG (by omega) h he, fun h => ⟨vp_n (by omega) (by decide), ex1 (go (fun h' => h h'.2.1))⟩⟩⟩⟩
  unfold P_M_find
  rw [jI_toL (by omega), show (977 : Int64) = jL 977 from rfl, jL_mul, jL_add]
  refine m_place (by omega) ?_
  have ep : hP (lo12 x + 977 * k) = pl x := by unfold pl; rw [hx]
  have hpl := hP_lt (lo12 x + 977 * k)
  rw [ep] at hpl ⊢
  rw [jI_tn (by omega), h43 _ hpl]
  exact ⟨vp_n hpl (by decide), ex1 ⟨_, loop (G.1 + 1) G.1 (by omega) (Nat.le_refl _) (fun i h1 h2 => by omega)⟩⟩
/-- a state is entered -/
theorem rr_new {G : Li} {z z' : St} {x : Nat} (hR : RR G z) (hlt : G.1 < 1001) (e13 : z'.1 31 13 = jI (G.1 + 1)) (e12 : z'.1 31 12 = 0) (e40 : ∀ i, i ≠ G.1 → z'.2 40 i = z.2 40 i) (e40n : z'.2 40 G.1 = jL (lo12 x)) (e42 : ∀ i, i ≠ G.1 → z'.1 42 i = z.1 42 i) (e42n : z'.1 42 G.1 = z.1 43 (pl x)) (e43 : ∀ p, p ≠ pl x → z'.1 43 p = z.1 43 p) (e43n : z'.1 43 (pl x) = jI (G.1 + 1)) : RR (G.1 + 1, fup G.2 G.1 x) z' := by
  obtain ⟨r13, r12, r1, r3, r40, h43, h42⟩ := hR
  have hc : ∀ m p, m ≤ G.1 → lb (G.1 + 1, fup G.2 G.1 x) p m = lb G p m := fun m p hm => lb_congr (fun i hi => fup_ne (by omega))
  refine ⟨e13, e12, Nat.le_add_left 1 _, hlt, fun i hi => ?_, fun p hp => ?_, fun i h1 hi => ?_⟩
  · have hi' : i < G.1 + 1 := hi
    show z'.2 40 i = jL (lo12 (fup G.2 G.1 x i))
    by_cases e : i = G.1
    · subst e; rw [fup_at]; exact e40n
    · rw [fup_ne e, e40 i e]; exact r40 i (by omega)
  · show z'.1 43 p = jI (if 1 ≤ G.1 ∧ pl (fup G.2 G.1 x G.1) = p then G.1 + 1 else lb (G.1 + 1, fup G.2 G.1 x) p G.1)
    rw [fup_at]
    by_cases e : p = pl x
    · rw [if_pos ⟨r1, e.symm⟩, e]; exact e43n
    · rw [if_neg (fun h => e h.2.symm), hc _ _ (Nat.le_refl _), e43 p e]; exact h43 p hp
  · have hi' : i < G.1 + 1 := hi
    show z'.1 42 i = jI (lb (G.1 + 1, fup G.2 G.1 x) (pl (fup G.2 G.1 x i)) i)
    rw [hc _ _ (by omega)]
    by_cases e : i = G.1
    · subst e; rw [fup_at, e42n]; exact h43 _ (hP_lt _)
    · rw [fup_ne e, e42 i e]; exact h42 i h1 (by omega)
