/-! The pure side: the seats, and how far they miss the quotas. -/
/-- what a place holds: 0 nobody, p + 1 person p -/
def sv : Nat → Int32
  | 0 => -1
  | n + 1 => jI n
theorem sv_m1 {n : Nat} (h : n < 2147483648) : sv n = -1 ↔ n = 0 := by
  cases n with
  | zero => exact ⟨fun _ => rfl, fun _ => rfl⟩
  | succ n => exact ⟨fun h' => absurd h' (jI_m1 (by omega)), fun h' => by omega⟩
/-- the places hold these persons, on both sides -/
def ST (A : Ab) (se : Nat → Nat) (z : St) : Prop := z.1 26 5 = jI (sZ A) ∧ (∀ i, i < sZ A → z.1 27 i = sv (se i) ∧ z.1 44 i = sv (se i)) ∧ (∀ i, i < sZ A → se i ≤ aN A) ∧ ∀ i i', i < sZ A → i' < sZ A → se i = se i' → se i ≠ 0 → i = i'
def hit (A : Ab) (x q : Nat) : Nat := if x = 0 then 0 else if q % 4 = dg (aC A (x - 1)) (q / 4) then 1 else 0
theorem hit_le (A : Ab) (x q : Nat) : hit A x q ≤ 1 := by unfold hit; split; exact Nat.zero_le _; split; exact Nat.le_refl _; exact Nat.zero_le _
theorem hit_s (A : Ab) (p q : Nat) : hit A (p + 1) q = if q % 4 = dg (aC A p) (q / 4) then 1 else 0 := rfl
/-- how many of a quota's value sit on the first n places -/
def vc (A : Ab) (se : Nat → Nat) (q n : Nat) : Nat := sm (fun i => hit A (se i) q) n
theorem vc_le (A : Ab) (se : Nat → Nat) (q : Nat) : ∀ n, vc A se q n ≤ n
  | 0 => Nat.le_refl _
  | n + 1 => by
    have := vc_le A se q n
    have h := hit_le A (se n) q
    show vc A se q n + hit A (se n) q ≤ n + 1
    omega
def mis (A : Ab) (c q : Nat) : Nat := (lO A q - c) + (c - hI A q)
def bq (A : Ab) (se : Nat → Nat) (x q : Nat) : Nat := mis A (vc A se q (sZ A) + hit A x q) q
/-- the breach: over the values of a trait, over the traits -/
def bt (A : Ab) (se : Nat → Nat) (x t n : Nat) : Nat := sm (fun v => bq A se x (4 * t + v)) n
def br (A : Ab) (se : Nat → Nat) (x : Nat) : Nat := bt A se x 0 (vS A 0) + bt A se x 1 (vS A 1) + bt A se x 2 (vS A 2)
theorem bt_le {A : Ab} (hW : WF A) {se : Nat → Nat} {x t : Nat} (ht : t < 3) : ∀ {n : Nat}, n ≤ 4 → bt A se x t n ≤ n * 17
  | 0, _ => Nat.zero_le _
  | n + 1, hn => by
    have ih := bt_le hW (se := se) (x := x) ht (n := n) (by omega)
    have h1 := vc_le A se (4 * t + n) (sZ A)
    have h2 := hit_le A x (4 * t + n)
    have h3 := hW.2.2.2.2.2.1 (4 * t + n) (by omega)
    have h4 := hW.2.2.2.2.2.2.2
    show bt A se x t n + mis A _ _ ≤ (n + 1) * 17
    unfold mis
    rw [Nat.add_mul, Nat.one_mul]; omega
theorem br_le {A : Ab} (hW : WF A) {se : Nat → Nat} {x : Nat} : br A se x ≤ 204 := by
  have h0 := bt_le hW (se := se) (x := x) (t := 0) (by decide) (hW.2.2.2.2.1 0 (by decide)).2
  have h1 := bt_le hW (se := se) (x := x) (t := 1) (by decide) (hW.2.2.2.2.1 1 (by decide)).2
  have h2 := bt_le hW (se := se) (x := x) (t := 2) (by decide) (hW.2.2.2.2.1 2 (by decide)).2
  have v0 := (hW.2.2.2.2.1 0 (by decide)).2
  have v1 := (hW.2.2.2.2.1 1 (by decide)).2
  have v2 := (hW.2.2.2.2.1 2 (by decide)).2
  unfold br
  omega
theorem jI_neg {a b : Nat} (ha : a < 1000) (hb : b < 1000) (h : a < b) : jI a - jI b < 0 := by
  rw [Int32.lt_iff_toInt_lt, Int32.toInt_sub, jI_toInt (by omega), jI_toInt (by omega)]
  show Int.bmod ((a : Int) - b) (2 ^ 32) < 0
  rw [Int.bmod_eq_of_le (by omega) (by omega)]
  omega
theorem mmax_j {a b : Nat} (ha : a < 1000) (hb : b < 1000) : mmaxI (0 : Int32) (jI a - jI b) = jI (a - b) := by
  unfold mmaxI
  by_cases h : b < a
  · have h0 : (0 : Int32) < jI (a - b) := (jI_lt (a := 0) (b := a - b) (by decide) (by omega)).mpr (by omega)
    rw [jI_sub (by omega), if_pos h0]
  · by_cases e : a = b
    · subst e; rw [jI_sub (Nat.le_refl _), Nat.sub_self]; rfl
    · have hn := jI_neg ha hb (by omega)
      rw [if_neg (fun h' => absurd (Int32.lt_trans h' hn) (by decide)), show a - b = 0 by omega]; rfl
abbrev S28 : Nat → Nat → Bool := fun c _ => c == 28
def V28 (f : Nat → Nat) (z : St) : Prop := ∀ q, q < 12 → z.1 28 q = jI (f q)
theorem s_addValues {A : Ab} {x : Nat} {f : Nat → Nat} {z : St} {Q : St → Prop} (hW : WF A) (oP : OP A z) (hx : x ≤ aN A) (hf : V28 f z) (hQ : ∀ z', Fz S28 z z' → V28 (fun q => f q + hit A x q) z' → Q z') : P_S_addValuesOf (sv x) z Q := by
  have h40 := hW.1
  cases x with
  | zero =>
    refine ⟨fun _ => hQ z fz_rfl (fun q hq => ?_), fun h => absurd rfl h⟩
    rw [hf q hq]; rfl
  | succ p =>
    have hp : p < aN A := by omega
    have hc := (hW.2.2.2.1 p hp).1
    have d := fun t => dg_lt (aC A p) t
    have d0 := d 0
    have d1 := d 1
    have d2 := d 2
    refine ⟨fun h => absurd h (jI_m1 (by omega)), fun _ => ?_⟩
    have step : ∀ (t : Nat) (g : Nat → Nat) (z1 : St) (Q' : St → Prop), t < 3 → Fz S28 z z1 → V28 g z1 → (∀ z2, Fz S28 z z2 → V28 (fup g (4 * t + dg (aC A p) t) (g (4 * t + dg (aC A p) t) + 1)) z2 → Q' z2) → vp_in (jI p) 40 ∧ P_P_valueIn (z1.1 3 (jI p).toNatClampNeg) (jI t) z1 (fun (x2 : Int32) (z1 : St) => P_O_quotaOf (jI t) x2 z1 (fun (x4 : Int32) (z3 : St) => vp_in x4 12 ∧ vp_in x4 12 ∧ ∀ z5 : St, z5 = wI z3 28 x4.toNatClampNeg ((z3.1 28 x4.toNatClampNeg) + (1 : Int32)) → Q' z5)) := by
      intro t g z1 Q' ht hz1 hg hQ'
      have dt := d t
      have oP1 := op_fr ⟨rfl, fun _ => rfl⟩ hz1 oP
      refine ⟨vp_n (by omega) (by decide), ?_⟩
      rw [jI_tn (by omega), oP1.2 p hp]
      refine s_valueIn hc ht ?_
      unfold P_O_quotaOf
      rw [show (4 : Int32) = jI 4 from rfl, jI_mul, jI_add, Nat.mul_comm]
      refine ⟨vp_n (by omega) (by decide), vp_n (by omega) (by decide), ex1 ?_⟩
      rw [jI_tn (n := 4 * t + dg (aC A p) t) (by omega)]
      refine hQ' _ (fz_I hz1 rfl) (fun q hq => ?_)
      by_cases e : q = 4 * t + dg (aC A p) t
      · subst e; rw [zI_at, fup_at, hg _ hq, jI_s]
      · rw [zI_ne e, fup_ne e]; exact hg q hq
    refine ⟨4, fun e => absurd e (by decide), fun _ => step 0 f z _ (by decide) fz_rfl hf (fun z1 hz1 h1 => ex1 ?_)⟩
    refine ⟨fun e => absurd e (by decide), fun _ => step 1 _ z1 _ (by decide) hz1 h1 (fun z2 hz2 h2 => ex1 ?_)⟩
    refine ⟨fun e => absurd e (by decide), fun _ => step 2 _ z2 _ (by decide) hz2 h2 (fun z3 hz3 h3 => ex1 ?_)⟩
    refine ⟨fun _ => hQ z3 hz3 (fun q hq => ?_), fun e => absurd (by decide) e⟩
    rw [h3 q hq]
    congr 1
    show _ = f q + hit A (p + 1) q
    rw [hit_s]
    have hq4 : q / 4 = 0 ∨ q / 4 = 1 ∨ q / 4 = 2 := by omega
    rcases hq4 with e | e | e
    · rw [e, fup_ne (by omega), fup_ne (by omega)]
      by_cases c : q = 4 * 0 + dg (aC A p) 0
      · rw [if_pos (by omega), ← c, fup_at]
      · rw [if_neg (by omega), fup_ne c]; rfl
    · rw [e, fup_ne (by omega)]
      by_cases c : q = 4 * 1 + dg (aC A p) 1
      · rw [if_pos (by omega), ← c, fup_at, fup_ne (by omega)]
      · rw [if_neg (by omega), fup_ne c, fup_ne (by omega)]; rfl
    · rw [e]
      by_cases c : q = 4 * 2 + dg (aC A p) 2
      · rw [if_pos (by omega), ← c, fup_at, fup_ne (by omega), fup_ne (by omega)]
      · rw [if_neg (by omega), fup_ne c, fup_ne (by omega), fup_ne (by omega)]; rfl
theorem s_fill3 {z : St} {Q : St → Prop} (h : ∀ z', Fz S28 z z' → V28 (fun _ => 0) z' → Q z') : P_A_fill3 0 z Q := by
  have loop : ∀ (d i : Nat) (z' : St), i + d = 12 → Fz S28 z z' → (∀ i', i' < i → z'.1 28 i' = 0) → L_A_fill3_5 Q (d + 1) 0 (jI i) (12 : Int32) z' := by
    intro d
    induction d with
    | zero =>
      intro i z' hi hF hv
      refine ⟨fun _ => h z' hF (fun i' hi' => hv i' (by omega)), fun hn => absurd ?_ hn⟩
      rw [show (12 : Int32) = jI 12 from rfl, jI_le (by decide) (by omega)]; omega
    | succ d ih =>
      intro i z' hi hF hv
      refine ⟨fun hn => absurd hn ?_, fun _ => ⟨vp_n (by omega) (by decide), ex1 (ex1 ?_)⟩⟩
      · rw [show (12 : Int32) = jI 12 from rfl, jI_le (by decide) (by omega)]; omega
      rw [jI_tn (by omega), jI_s]
      refine ih (i + 1) _ (by omega) (fz_I hF rfl) (fun i' hi' => ?_)
      by_cases e : i' = i
      · subst e; exact zI_at
      · rw [zI_ne e]; exact hv i' (by omega)
  exact ⟨_, loop 12 0 z (by omega) fz_rfl (fun i hi => absurd hi (Nat.not_lt_zero i))⟩
theorem s_breach {A : Ab} {se : Nat → Nat} {x : Nat} {z : St} {Q : Int32 → St → Prop} (hW : WF A) (oP : OP A z) (oV : OV A z) (oQ : OQ A z) (hS : ST A se z) (hx : x ≤ aN A) (hQ : ∀ z', Fz S28 z z' → Q (jI (br A se x)) z') : P_S_breachWith (sv x) z Q := by
  have i8 := hW.2.2.2.2.2.2.2
  refine s_fill3 (fun z1 hz1 h1 => ?_)
  have l10 : ∀ (K : Int32 → St → Prop), (∀ z', Fz S28 z z' → V28 (fun q => vc A se q (sZ A)) z' → K (sv x) z') → ∀ (d i : Nat) (z' : St), i + d = sZ A → Fz S28 z z' → V28 (fun q => vc A se q i) z' → L_S_breachWith_10 K Q (d + 1) (sv x) (jI i) z' := by
    intro K hK d
    induction d with
    | zero =>
      intro i z' hi hz hv
      refine ⟨fun _ => hK z' hz ?_, fun hn => absurd ?_ hn⟩
      · rw [show i = sZ A by omega] at hv; exact hv
      · rw [(hz 26 5 rfl).1, hS.1, jI_le (by omega) (by omega)]; omega
    | succ d ih =>
      intro i z' hi hz hv
      refine ⟨fun h => absurd h ?_, fun _ => ⟨vp_n (by omega) (by decide), ?_⟩⟩
      · rw [(hz 26 5 rfl).1, hS.1, jI_le (by omega) (by omega)]; omega
      rw [jI_tn (by omega), (hz 27 i rfl).1, (hS.2.1 i (by omega)).1]
      refine s_addValues hW (op_fr ⟨rfl, fun _ => rfl⟩ hz oP) (hS.2.2.1 i (by omega)) hv (fun z2 hz2 h2 => ex1 ?_)
      rw [jI_s]
      exact ih (i + 1) z2 (by omega) (fz_trans hz hz2) h2
  refine ⟨_, l10 _ (fun z2 hz2 h2 => ?_) (sZ A) 0 z1 (by omega) hz1 h1⟩
  refine s_addValues hW (op_fr ⟨rfl, fun _ => rfl⟩ hz2 oP) hx h2 (fun z3 hz3 h3 => ?_)
  have hz := fz_trans hz2 hz3
  have oVz := ov_fr (S := S28) (fun _ => rfl) hz oV
  have oQz := oq_fr (S := S28) ⟨fun _ => rfl, fun _ => rfl⟩ hz oQ
  have l51 : ∀ (K : Int32 → Int32 → St → Prop) (t b : Nat), t < 3 → b ≤ 1000 → K (jI (b + bt A se x t (vS A t))) (jI t) z3 → ∀ (d v : Nat), v + d = vS A t → L_S_breachWith_51 K Q (d + 1) (jI (b + bt A se x t v)) (jI t) (jI v) z3 := by
    intro K t b ht hb hK d
    have h4 := (hW.2.2.2.2.1 t ht).2
    induction d with
    | zero =>
      intro v hv
      refine ⟨vp_n ht (by decide), fun _ => ?_, fun hn => absurd ?_ hn⟩
      · rw [show v = vS A t by omega]; exact hK
      · rw [jI_tn (by omega), oVz t ht, jI_le (by omega) (by omega)]; omega
    | succ d ih =>
      intro v hv
      have e4 : jI t * 4 + jI v = jI (4 * t + v) := by rw [show (4 : Int32) = jI 4 from rfl, jI_mul, jI_add, Nat.mul_comm]
      refine ⟨vp_n ht (by decide), fun h => absurd h ?_, fun _ => ?_⟩
      · rw [jI_tn (by omega), oVz t ht, jI_le (by omega) (by omega)]; omega
      unfold P_O_quotaOf P_Q_breachBy
      have hl := hW.2.2.2.2.2.1 (4 * t + v) (by omega)
      have h1 := vc_le A se (4 * t + v) (sZ A)
      have h2 := hit_le A x (4 * t + v)
      have hbt := bt_le hW (se := se) (x := x) ht (n := v) (by omega)
      rw [e4]
      refine ⟨vp_n (by omega) (by decide), vp_n (by omega) (by decide), vp_n (by omega) (by decide), ex1 (ex1 ?_)⟩
      rw [jI_tn (n := 4 * t + v) (by omega), show z3.1 28 (4 * t + v) = jI (vc A se (4 * t + v) (sZ A) + hit A x (4 * t + v)) from h3 _ (by omega), oQz.1 _ (by omega), oQz.2 _ (by omega), mmax_j (by omega) (by omega), mmax_j (by omega) (by omega), jI_add, jI_add, jI_s]
      have := ih (v + 1) (by omega)
      have es : b + bt A se x t (v + 1) = b + bt A se x t v + (lO A (4 * t + v) - (vc A se (4 * t + v) (sZ A) + hit A x (4 * t + v)) + (vc A se (4 * t + v) (sZ A) + hit A x (4 * t + v) - hI A (4 * t + v))) := by
        rw [Nat.add_assoc]; rfl
      rw [es] at this
      exact this
  have b0 := bt_le hW (se := se) (x := x) (t := 0) (by decide) (hW.2.2.2.2.1 0 (by decide)).2
  have b1 := bt_le hW (se := se) (x := x) (t := 1) (by decide) (hW.2.2.2.2.1 1 (by decide)).2
  have v0 := (hW.2.2.2.2.1 0 (by decide)).2
  have v1 := (hW.2.2.2.2.1 1 (by decide)).2
  have i0 := fun K hK => l51 K 0 0 (by decide) (by omega) hK (vS A 0) 0 (by omega)
  have i1 := fun K hK => l51 K 1 (bt A se x 0 (vS A 0)) (by decide) (by omega) hK (vS A 1) 0 (by omega)
  have i2 := fun K hK => l51 K 2 (bt A se x 0 (vS A 0) + bt A se x 1 (vS A 1)) (by decide) (by omega) hK (vS A 2) 0 (by omega)
  refine ⟨4, fun e => absurd e (by decide), fun _ => ⟨_, i0 _ (ex1 ?_)⟩⟩
  rw [Nat.zero_add]
  refine ⟨fun e => absurd e (by decide), fun _ => ⟨_, i1 _ (ex1 ?_)⟩⟩
  refine ⟨fun e => absurd e (by decide), fun _ => ⟨_, i2 _ (ex1 ?_)⟩⟩
  exact ⟨fun _ => hQ z3 hz, fun e => absurd (by decide) e⟩
