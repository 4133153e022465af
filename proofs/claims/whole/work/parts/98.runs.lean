/-! The pure side: the start, and every run of calls. -/
theorem inv_init {z : St} (h : Init z) : Inv z := by
  obtain ⟨f0, f1, f2, h0, h1, h2, rfl⟩ := h
  have r36 : ∀ q, q < 12 → (zinit f0 f1 f2).1 36 q = 8 := by
    intro q hq
    have hc : q = 0 ∨ q = 1 ∨ q = 2 ∨ q = 3 ∨ q = 4 ∨ q = 5 ∨ q = 6 ∨ q = 7 ∨ q = 8 ∨ q = 9 ∨ q = 10 ∨ q = 11 := by omega
    rcases hc with e | e | e | e | e | e | e | e | e | e | e | e <;> subst e <;> rfl
  have r2 : ∀ t, t < 3 → (zinit f0 f1 f2).1 2 t = 1 := by
    intro t ht
    have hc : t = 0 ∨ t = 1 ∨ t = 2 := by omega
    rcases hc with e | e | e <;> subst e <;> rfl
  have r34 : ∀ t, t < 3 → (zinit f0 f1 f2).1 34 t = 1 := by
    intro t ht
    have hc : t = 0 ∨ t = 1 ∨ t = 2 := by omega
    rcases hc with e | e | e <;> subst e <;> rfl
  exact ⟨A0, fun _ => 0, 0, 0, ⟨wf_0, ⟨⟨⟨rfl, fun k hk => absurd hk (Nat.not_lt_zero k), fun k hk => absurd hk (Nat.not_lt_zero k)⟩, ⟨rfl, fun p hp => absurd hp (Nat.not_lt_zero p)⟩, r2, ⟨fun _ _ => rfl, h0⟩, rfl⟩, ⟨rfl, fun k hk => absurd hk (Nat.not_lt_zero k), fun k hk => absurd hk (Nat.not_lt_zero k)⟩, ⟨rfl, fun p hp => absurd hp (Nat.not_lt_zero p)⟩, r34, ⟨fun _ _ => rfl, r36⟩, rfl⟩, ⟨0, rfl, by decide, fun p hp => absurd hp (Nat.not_lt_zero p)⟩, h1, Or.inl ⟨rfl, rfl, rfl, rfl, rfl, rfl, fun p hp => absurd hp (Nat.not_lt_zero p)⟩⟩, rfl, Or.inl ⟨rfl, rfl, rfl, rfl⟩, Or.inl rfl, Or.inl rfl, Or.inl rfl⟩
theorem low5 (x : Int32) : ∃ k : Nat, k < 32 ∧ x &&& 31 = nI k := by
  refine ⟨x.toBitVec.toNat % 32, Nat.mod_lt _ (by decide), ?_⟩
  apply Int32.toBitVec_inj.mp
  apply BitVec.eq_of_toNat_eq
  show (x.toBitVec &&& 31#32).toNat = (BitVec.ofNat 32 (x.toBitVec.toNat % 32)).toNat
  rw [BitVec.toNat_and, BitVec.toNat_ofNat, BitVec.toNat_ofNat]
  have h1 : x.toBitVec.toNat &&& (31 % 2 ^ 32) = x.toBitVec.toNat % 32 := Nat.and_two_pow_sub_one_eq_mod _ 5
  rw [h1]
  omega
theorem c_body {k : Nat} {x1 x2 x3 x4 v4 : Int32} {z : St} {K : St → Prop} (hI : Inv z) (hK : ∀ z', Inv z' → K z') : BodyJ k x1 x2 x3 x4 v4 z K := by
  match k with
  | 0 => exact c_trait (x1 := x1) (x2 := x2) (x3 := x3) (x4 := x4) (v4 := v4) hI hK
  | 1 => exact c_person (x1 := x1) (x2 := x2) (x3 := x3) (x4 := x4) (v4 := v4) hI hK
  | 2 => exact c_quota (x1 := x1) (x2 := x2) (x3 := x3) (x4 := x4) (v4 := v4) hI hK
  | 3 => exact c_size (x1 := x1) (x2 := x2) (x3 := x3) (x4 := x4) (v4 := v4) hI hK
  | 4 => exact c_count (x1 := x1) (x2 := x2) (x3 := x3) (x4 := x4) (v4 := v4) hI hK
  | 5 => exact c_states (x1 := x1) (x2 := x2) (x3 := x3) (x4 := x4) (v4 := v4) hI hK
  | 6 => exact c_chance (x1 := x1) (x2 := x2) (x3 := x3) (x4 := x4) (v4 := v4) hI hK
  | 7 => exact c_kind (x1 := x1) (x2 := x2) (x3 := x3) (x4 := x4) (v4 := v4) hI hK
  | 8 => exact c_blocked (x1 := x1) (x2 := x2) (x3 := x3) (x4 := x4) (v4 := v4) hI hK
  | 9 => exact c_panel (x1 := x1) (x2 := x2) (x3 := x3) (x4 := x4) (v4 := v4) hI hK
  | 10 => exact c_mark (x1 := x1) (x2 := x2) (x3 := x3) (x4 := x4) (v4 := v4) hI hK
  | 11 => exact c_rank (x1 := x1) (x2 := x2) (x3 := x3) (x4 := x4) (v4 := v4) hI hK
  | 12 => exact c_dice (x1 := x1) (x2 := x2) (x3 := x3) (x4 := x4) (v4 := v4) hI hK
  | 13 => exact c_roll (x1 := x1) (x2 := x2) (x3 := x3) (x4 := x4) (v4 := v4) hI hK
  | 14 => exact c_number (x1 := x1) (x2 := x2) (x3 := x3) (x4 := x4) (v4 := v4) hI hK
  | 15 => exact c_draw (x1 := x1) (x2 := x2) (x3 := x3) (x4 := x4) (v4 := v4) hI hK
  | 16 => exact c_member (x1 := x1) (x2 := x2) (x3 := x3) (x4 := x4) (v4 := v4) hI hK
  | 17 => exact c_dropOut (x1 := x1) (x2 := x2) (x3 := x3) (x4 := x4) (v4 := v4) hI hK
  | 18 => exact c_candidate (x1 := x1) (x2 := x2) (x3 := x3) (x4 := x4) (v4 := v4) hI hK
  | 19 => exact c_replace (x1 := x1) (x2 := x2) (x3 := x3) (x4 := x4) (v4 := v4) hI hK
  | 20 => exact c_breach (x1 := x1) (x2 := x2) (x3 := x3) (x4 := x4) (v4 := v4) hI hK
  | 21 => exact c_reset (x1 := x1) (x2 := x2) (x3 := x3) (x4 := x4) (v4 := v4) hI hK
  | n + 22 => exact hK z hI
theorem runs_inv (xs : Nat → Int32) : ∀ (n j : Nat) (z : St), Inv z → LawRun xs n j z
  | 0, _, _, _ => trivial
  | n + 1, j, z, hI => by
    obtain ⟨k, hk, e⟩ := low5 (xs (5 * j))
    exact ⟨k, hk, e, c_body hI (fun z' h => runs_inv xs n (j + 1) z' h)⟩
/-- every run of calls from the start keeps to what the loop asks -/
theorem law_runs (xs : Nat → Int32) (n : Nat) (z : St) (h : Init z) : LawRun xs n 0 z := runs_inv xs n 0 z (inv_init h)
