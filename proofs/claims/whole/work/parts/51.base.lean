/-! The pure side: numbers. -/
def jI (n : Nat) : Int32 := Int32.ofNat n
def jL (n : Nat) : Int64 := Int64.ofNat n
theorem ex1 {α : Type} {e : α} {p : α → Prop} (h : p e) : ∀ x, x = e → p x := fun _ hx => hx ▸ h
theorem jI_toInt {n : Nat} (h : n < 2147483648) : (jI n).toInt = n := Int32.toInt_ofNat_of_lt h
theorem jL_toInt {n : Nat} (h : n < 9223372036854775808) : (jL n).toInt = n := Int64.toInt_ofNat_of_lt h
theorem jI_tn {n : Nat} (h : n < 2147483648) : (jI n).toNatClampNeg = n := by
  show (jI n).toInt.toNat = n
  rw [jI_toInt h]; rfl
theorem jI_le {a b : Nat} (ha : a < 2147483648) (hb : b < 2147483648) : jI a ≤ jI b ↔ a ≤ b := by
  rw [Int32.le_iff_toInt_le, jI_toInt ha, jI_toInt hb]; omega
theorem jI_lt {a b : Nat} (ha : a < 2147483648) (hb : b < 2147483648) : jI a < jI b ↔ a < b := by
  rw [Int32.lt_iff_toInt_lt, jI_toInt ha, jI_toInt hb]; omega
theorem jI_eq {a b : Nat} (ha : a < 2147483648) (hb : b < 2147483648) : jI a = jI b ↔ a = b := by
  rw [← Int32.toInt_inj, jI_toInt ha, jI_toInt hb]; omega
theorem jI_add (a b : Nat) : jI a + jI b = jI (a + b) := (Int32.ofNat_add a b).symm
theorem jI_mul (a b : Nat) : jI a * jI b = jI (a * b) := (Int32.ofNat_mul a b).symm
theorem jI_sub {a b : Nat} (h : b ≤ a) : jI a - jI b = jI (a - b) := (Int32.ofNat_sub a b h).symm
theorem jI_s (a : Nat) : jI a + 1 = jI (a + 1) := jI_add a 1
theorem jI_p {a : Nat} (h : 1 ≤ a) : jI a - 1 = jI (a - 1) := jI_sub h
theorem jI_ne0 {a : Nat} (ha : a < 2147483648) (h : a ≠ 0) : ¬ jI a = 0 := fun e => h ((jI_eq ha (by decide)).mp e)
theorem jI_nn {a : Nat} (ha : a < 2147483648) : ¬ jI a < 0 := fun e => Nat.not_lt_zero _ ((jI_lt ha (b := 0) (by decide)).mp e)
theorem jI_0le {a : Nat} (ha : a < 2147483648) : 0 ≤ jI a := (jI_le (a := 0) (by decide) ha).mpr (Nat.zero_le _)
theorem vp_n {a n : Nat} (h : a < n) (hn : n ≤ 2147483648) : vp_in (jI a) n := by
  have ha : a < 2147483648 := by omega
  rintro (e | e)
  · exact jI_nn ha e
  · rw [jI_tn ha] at e; omega
theorem i32_nlt {a b : Int32} : ¬ a < b ↔ b ≤ a := by
  rw [Int32.le_iff_toInt_le, Int32.lt_iff_toInt_lt]; omega
theorem i32_nle {a b : Int32} : ¬ a ≤ b ↔ b < a := by
  rw [Int32.le_iff_toInt_le, Int32.lt_iff_toInt_lt]; omega
theorem i64_nle {a b : Int64} : ¬ a ≤ b ↔ b < a := by
  rw [Int64.le_iff_toInt_le, Int64.lt_iff_toInt_lt]; omega
theorem i64_nlt {a b : Int64} : ¬ a < b ↔ b ≤ a := by
  rw [Int64.le_iff_toInt_le, Int64.lt_iff_toInt_lt]; omega
theorem i32_nn {x : Int32} (h : ¬ x < 0) : ∃ n : Nat, n < 2147483648 ∧ x = jI n := by
  have h0 : (0 : Int) ≤ x.toInt := by
    have := i32_nlt.mp h
    rwa [Int32.le_iff_toInt_le] at this
  have h1 := Int32.toInt_lt x
  refine ⟨x.toInt.toNat, by omega, ?_⟩
  rw [← Int32.toInt_inj, jI_toInt (by omega)]; omega
theorem i64_nn {x : Int64} (h : ¬ x < 0) : ∃ n : Nat, n < 9223372036854775808 ∧ x = jL n := by
  have h0 : (0 : Int) ≤ x.toInt := by
    have := i64_nlt.mp h
    rwa [Int64.le_iff_toInt_le] at this
  have h1 := Int64.toInt_lt x
  refine ⟨x.toInt.toNat, by omega, ?_⟩
  rw [← Int64.toInt_inj, jL_toInt (by omega)]; omega
theorem jL_le {a b : Nat} (ha : a < 9223372036854775808) (hb : b < 9223372036854775808) : jL a ≤ jL b ↔ a ≤ b := by
  rw [Int64.le_iff_toInt_le, jL_toInt ha, jL_toInt hb]; omega
theorem jL_lt {a b : Nat} (ha : a < 9223372036854775808) (hb : b < 9223372036854775808) : jL a < jL b ↔ a < b := by
  rw [Int64.lt_iff_toInt_lt, jL_toInt ha, jL_toInt hb]; omega
theorem jL_eq {a b : Nat} (ha : a < 9223372036854775808) (hb : b < 9223372036854775808) : jL a = jL b ↔ a = b := by
  rw [← Int64.toInt_inj, jL_toInt ha, jL_toInt hb]; omega
theorem jL_add (a b : Nat) : jL a + jL b = jL (a + b) := (Int64.ofNat_add a b).symm
theorem jL_mul (a b : Nat) : jL a * jL b = jL (a * b) := (Int64.ofNat_mul a b).symm
theorem jL_sub {a b : Nat} (h : b ≤ a) : jL a - jL b = jL (a - b) := (Int64.ofNat_sub a b h).symm
theorem jI_toL {n : Nat} (h : n < 2147483648) : (jI n).toInt64 = jL n := by
  rw [← Int64.toInt_inj, Int32.toInt_toInt64, jI_toInt h, jL_toInt (by omega)]
theorem jL_div {a b : Nat} (ha : a < 9223372036854775808) (hb : b < 9223372036854775808) : jL a / jL b = jL (a / b) := by
  rw [← Int64.toInt_inj, Int64.toInt_div, jL_toInt ha, jL_toInt hb, jL_toInt (Nat.lt_of_le_of_lt (Nat.div_le_self a b) ha)]
  have hd := Nat.div_le_self a b
  rw [← Int.ofNat_tdiv]
  generalize a / b = q at hd ⊢
  refine Int.bmod_eq_of_le ?_ ?_ <;> omega
theorem jI_div {a b : Nat} (ha : a < 2147483648) (hb : b < 2147483648) : jI a / jI b = jI (a / b) := by
  rw [← Int32.toInt_inj, Int32.toInt_div, jI_toInt ha, jI_toInt hb, jI_toInt (Nat.lt_of_le_of_lt (Nat.div_le_self a b) ha)]
  have hd := Nat.div_le_self a b
  rw [← Int.ofNat_tdiv]
  generalize a / b = q at hd ⊢
  refine Int.bmod_eq_of_le ?_ ?_ <;> omega
theorem jL_or (a b : Nat) : jL a ||| jL b = jL (a ||| b) := by
  apply Int64.toBitVec_inj.mp
  show BitVec.ofNat 64 a ||| BitVec.ofNat 64 b = BitVec.ofNat 64 (a ||| b)
  rw [BitVec.ofNat_or]
theorem jL_and (a b : Nat) : jL a &&& jL b = jL (a &&& b) := by
  apply Int64.toBitVec_inj.mp
  show BitVec.ofNat 64 a &&& BitVec.ofNat 64 b = BitVec.ofNat 64 (a &&& b)
  rw [BitVec.ofNat_and]
theorem jL_xor (a b : Nat) : jL a ^^^ jL b = jL (a ^^^ b) := by
  apply Int64.toBitVec_inj.mp
  show BitVec.ofNat 64 a ^^^ BitVec.ofNat 64 b = BitVec.ofNat 64 (a ^^^ b)
  rw [BitVec.ofNat_xor]
theorem jI_and (a b : Nat) : jI a &&& jI b = jI (a &&& b) := by
  apply Int32.toBitVec_inj.mp
  show BitVec.ofNat 32 a &&& BitVec.ofNat 32 b = BitVec.ofNat 32 (a &&& b)
  rw [BitVec.ofNat_and]
theorem jL_toI (a : Nat) : (jL a).toInt32 = jI a := by
  apply Int32.toBitVec_inj.mp
  show (BitVec.ofNat 64 a).signExtend 32 = BitVec.ofNat 32 a
  rw [BitVec.signExtend_eq_setWidth_of_le _ (by decide), BitVec.setWidth_ofNat_of_le (by decide)]
theorem sh_63 : ∀ s : Nat, s < 64 → (jI s).toInt64 &&& 63 = jL s := by decide
theorem sh_1 : ∀ s : Nat, s < 64 → (1 : Int64) <<< jL s = jL (2 ^ s) := by decide +kernel
theorem jL_shr {m s : Nat} (hm : m < 9223372036854775808) (hs : s < 64) : jL m >>> jL s = jL (m / 2 ^ s) := by
  apply Int64.toBitVec_inj.mp
  rw [Int64.toBitVec_shiftRight]
  have e : (jL s).toBitVec.smod 64 = BitVec.ofNat 64 s := by
    show (BitVec.ofNat 64 s).smod 64 = BitVec.ofNat 64 s
    revert s; decide +kernel
  rw [e]
  show (BitVec.ofNat 64 m).sshiftRight' (BitVec.ofNat 64 s) = BitVec.ofNat 64 (m / 2 ^ s)
  have hmsb : (BitVec.ofNat 64 m).msb = false := by
    rw [BitVec.msb_eq_false_iff_two_mul_lt, BitVec.toNat_ofNat]; omega
  rw [BitVec.sshiftRight_eq', BitVec.sshiftRight_eq_of_msb_false hmsb]
  apply BitVec.eq_of_toNat_eq
  rw [BitVec.toNat_ushiftRight, BitVec.toNat_ofNat, BitVec.toNat_ofNat, BitVec.toNat_ofNat, Nat.shiftRight_eq_div_pow]
  have h2 := Nat.div_le_self m (2 ^ s)
  rw [Nat.mod_eq_of_lt (a := s) (by omega), Nat.mod_eq_of_lt (a := m) (by omega), Nat.mod_eq_of_lt (by omega)]
theorem jI_15 (a : Nat) : jI a &&& 15 = jI (a % 16) := by
  have := jI_and a 15
  rw [show a &&& 15 = a % 16 from Nat.and_two_pow_sub_one_eq_mod a 4] at this
  exact this
theorem fld {m s : Nat} (hm : m < 9223372036854775808) (hs : s < 64) : ((jL m >>> ((jI s).toInt64 &&& 63)).toInt32) &&& 15 = jI (m / 2 ^ s % 16) := by
  rw [sh_63 s hs, jL_shr hm hs, jL_toI, jI_15]
theorem isin {m p : Nat} (hm : m < 9223372036854775808) (hp : p < 64) : ((jL m >>> ((jI p).toInt64 &&& 63)) &&& 1) = 0 ↔ m.testBit p = false := by
  rw [sh_63 p hp, jL_shr hm hp]
  have e := jL_and (m / 2 ^ p) 1
  rw [show m / 2 ^ p &&& 1 = m / 2 ^ p % 2 from Nat.and_two_pow_sub_one_eq_mod _ 1] at e
  rw [show (1 : Int64) = jL 1 from rfl, e, show (0 : Int64) = jL 0 from rfl, jL_eq (by omega) (by decide), Nat.testBit_eq_decide_div_mod_eq]
  rw [decide_eq_false_iff_not]; omega
