/-! The pure side: throws of dice. -/
theorem rII (z : St) (c k : Nat) (v : Int32) (a b : Nat) : (wI z c k v).1 a b = if a = c then (if b = k then v else z.1 a b) else z.1 a b := rfl
theorem rIL (z : St) (c k : Nat) (v : Int32) : (wI z c k v).2 = z.2 := rfl
theorem rLL (z : St) (c k : Nat) (v : Int64) (a b : Nat) : (wL z c k v).2 a b = if a = c then (if b = k then v else z.2 a b) else z.2 a b := rfl
theorem rLI (z : St) (c k : Nat) (v : Int64) : (wL z c k v).1 = z.1 := rfl
/-- the dice of the office and of the reference tell the same -/
def DI (z : St) : Prop :=
  (z.1 25 0 = 0 ∧ z.1 25 1 = 0 ∧ z.1 31 23 = 0 ∧ z.1 31 29 = 0) ∨
  (z.1 25 0 = 1 ∧ (¬ z.1 31 23 = 0) ∧ z.1 25 2 = z.1 31 23 ∧ z.1 25 5 = z.1 31 25 ∧ z.2 25 3 = z.2 31 26 ∧ (¬ z.2 31 26 = 0) ∧ z.2 25 4 = z.2 31 28 ∧
    ((z.1 25 1 = 0 ∧ z.1 31 29 = 0 ∧ z.1 25 6 = z.1 31 24 ∧ z.2 25 7 = z.2 31 27) ∨ (z.1 25 1 = 1 ∧ z.1 31 29 = 1 ∧ z.2 25 7 = z.2 31 30)))
theorem i64_cut (o g : Int64) : o - (o - o / g * g) = o / g * g := by
  rw [Int64.sub_eq_add_neg, Int64.neg_sub, Int64.sub_eq_add_neg, ← Int64.add_assoc, Int64.add_comm o, Int64.add_assoc, Int64.add_right_neg, Int64.add_zero]
theorem i64_nle {a b : Int64} : ¬ a ≤ b ↔ b < a := by
  rw [Int64.le_iff_toInt_le, Int64.lt_iff_toInt_lt]; omega
theorem i32_nle {a b : Int32} : ¬ a ≤ b ↔ b < a := by
  rw [Int32.le_iff_toInt_le, Int32.lt_iff_toInt_lt]; omega
theorem vp_0 : vp_in (0 : Int32) 1 := by unfold vp_in; decide
/-- how the law compares an answer of the reference with the office's: both threw alike, or both answered alike -/
theorem law_same {z : St} {y y' : Int32} {K : St → Prop} (h : K z) (hc : z.1 31 0 = y) (ho : y = 0 → z.2 49 0 = y'.toInt64) :
    ((z.1 31 0 = y) → ((¬ y = 0) → K z) ∧ ((y = 0) → vp_in (0 : Int32) 1 ∧ (((z.2 49 (0 : Int32).toNatClampNeg) = y'.toInt64) → K z) ∧ ((¬ (z.2 49 (0 : Int32).toNatClampNeg) = y'.toInt64) → False))) ∧ ((¬ z.1 31 0 = y) → False) :=
  ⟨fun _ => ⟨fun _ => h, fun h0 => ⟨vp_0, fun _ => h, fun hn => hn (ho h0)⟩⟩, fun hn => hn hc⟩
theorem roll_M {x1 : Int32} {z : St} {Q : Int32 → St → Prop} (h1 : ¬ z.1 31 23 = 0) (h2 : z.1 31 29 = 0) (h3 : ¬ x1 < 1) (h4 : x1 ≤ z.1 31 23) (h : J_M_roll_37 Q x1 0 z) : P_M_roll x1 z Q :=
  ⟨fun a => absurd a h1, fun _ => ⟨fun _ => ⟨fun a => absurd a h3, fun _ => ⟨fun _ => h, fun a => absurd h4 a⟩⟩, fun a => absurd h2 a⟩⟩
set_option maxHeartbeats 2000000 in
theorem op_roll {x1 x2 x3 x4 v4 : Int32} {z : St} (h : DI z) : B_13 x1 x2 x3 x4 v4 z DI := by
  unfold B_13 P_L_roll P_O_roll P_D_awaitThrow
  rcases h with ⟨h1, h2, h3, h4⟩ | ⟨h1, h3, h5, h6, h7, h8, h9, hd⟩
  · refine ⟨fun _ => ⟨fun h => absurd rfl h, fun _ => Or.inl ⟨rfl, ?_⟩⟩, fun h => absurd h1 h⟩
    refine ⟨fun _ => ?_, fun h => absurd h3 h⟩
    intro z1 e1; subst e1
    refine ⟨fun h => absurd (show (1 : Int32) ≤ 0 from h) (by decide), fun _ => ?_⟩
    exact law_same (Or.inl ⟨h1, h2, h3, h4⟩) rfl (fun h => absurd h (by decide))
  · refine ⟨fun h => absurd (h1.symm.trans h) (by decide), fun _ => ?_⟩
    rcases hd with ⟨g1, g2, g3, g4⟩ | ⟨g1, g2, g3⟩
    · refine ⟨fun h => absurd g1 h, fun _ => ⟨fun _ => ?_, fun h => absurd h (by decide)⟩⟩
      unfold P_D_haveSide
      by_cases s1 : x1 < 1
      · refine ⟨fun _ => ⟨fun h => absurd rfl h, fun _ => Or.inr ⟨rfl, ?_⟩⟩, fun h => absurd s1 h⟩
        refine ⟨fun h => absurd h h3, fun _ => ⟨fun _ => ⟨fun _ => ?_, fun h => absurd s1 h⟩, fun h => absurd g2 h⟩⟩
        intro z1 e1; subst e1
        refine ⟨fun h => absurd (show (2 : Int32) ≤ 0 from h) (by decide), fun _ => ?_⟩
        exact law_same (Or.inr ⟨h1, h3, h5, h6, h7, h8, h9, Or.inl ⟨g1, g2, g3, g4⟩⟩) rfl (fun h => absurd h (by decide))
      · refine ⟨fun h => absurd h s1, fun _ => ?_⟩
        by_cases s2 : z.1 25 2 < x1
        · refine ⟨fun _ => ⟨fun h => absurd rfl h, fun _ => Or.inr ⟨rfl, ?_⟩⟩, fun h => absurd s2 h⟩
          have s3 : ¬ x1 ≤ z.1 31 23 := by rw [← h5]; exact i32_nle.mpr s2
          refine ⟨fun h => absurd h h3, fun _ => ⟨fun _ => ⟨fun h => absurd h s1, fun _ => ⟨fun h => absurd h s3, fun _ => ?_⟩⟩, fun h => absurd g2 h⟩⟩
          intro z1 e1; subst e1
          refine ⟨fun h => absurd (show (2 : Int32) ≤ 0 from h) (by decide), fun _ => ?_⟩
          exact law_same (Or.inr ⟨h1, h3, h5, h6, h7, h8, h9, Or.inl ⟨g1, g2, g3, g4⟩⟩) rfl (fun h => absurd h (by decide))
        · refine ⟨fun h => absurd h s2, fun _ => ⟨fun _ => ?_, fun h => absurd h (by decide)⟩⟩
          have s3 : x1 ≤ z.1 31 23 := by
            rw [← h5]
            exact Classical.byContradiction (fun h => s2 (i32_nle.mp h))
          unfold P_D_take
          intro z1 e1 z2 e2
          subst e1; subst e2
          have t1 : z.1 25 5 ≤ z.1 25 6 + 1 ↔ z.1 31 25 ≤ z.1 31 24 + 1 := by rw [h6, g3]
          by_cases c1 : z.1 25 5 ≤ z.1 25 6 + 1
          · have c1' := t1.mp c1
            refine ⟨fun _ => ⟨by show ¬ z.2 25 3 = 0; rw [h7]; exact h8, ?_⟩, fun h => absurd c1 h⟩
            sorry
          · have c1' : ¬ z.1 31 25 ≤ z.1 31 24 + 1 := fun h => c1 (t1.mpr h)
            refine ⟨fun h => absurd h c1, fun _ => ⟨vp_0, ?_⟩⟩
            intro z3 e3; subst e3
            refine roll_M h3 g2 s1 s3 ?_
            intro z4 e4; subst e4
            refine ⟨fun _ => ?_, fun h => absurd (show (0 : Int32) ≤ 0 by decide) h⟩
            intro z5 e5 z6 e6; subst e5; subst e6
            refine ⟨fun h => absurd h c1', fun _ => ?_⟩
            refine law_same (Or.inr ⟨h1, h3, h5, h6, h7, h8, h9, Or.inl ⟨g1, g2, ?_, ?_⟩⟩) rfl (fun _ => rfl)
            · show z.1 25 6 + 1 = z.1 31 24 + 1; rw [g3]
            · show z.2 25 7 * (z.1 25 2).toInt64 + x1.toInt64 - 1 = z.2 31 27 * (z.1 31 23).toInt64 + x1.toInt64 - 1; rw [g4, h5]
    · refine ⟨fun _ => ⟨fun h => absurd rfl h, fun _ => Or.inl ⟨rfl, ?_⟩⟩, fun h => absurd (h.symm.trans g1) (by decide)⟩
      refine ⟨fun h => absurd h h3, fun _ => ⟨fun h => absurd (h.symm.trans g2) (by decide), fun _ => ?_⟩⟩
      intro z1 e1; subst e1
      refine ⟨fun h => absurd (show (1 : Int32) ≤ 0 from h) (by decide), fun _ => ?_⟩
      exact law_same (Or.inr ⟨h1, h3, h5, h6, h7, h8, h9, Or.inr ⟨g1, g2, g3⟩⟩) rfl (fun h => absurd h (by decide))
