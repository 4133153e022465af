/-! The cases: number, roll. -/
theorem c_number {x1 x2 x3 x4 v4 : Int32} {z : St} {K : St → Prop} (hI : Inv z) (hK : ∀ z', Inv z' → K z') : B_14 x1 x2 x3 x4 v4 z K := by
  obtain ⟨A, se, sM, gM, h⟩ := id hI
  have key : (z.1 25 1 = 0 ∧ z.1 31 29 = 0) ∨ (z.1 25 1 = 1 ∧ z.1 31 29 = 1 ∧ z.2 25 7 = z.2 31 30) := by
    rcases h.2.2.1 with ⟨_, a, _, b⟩ | ⟨s, g, n, hd, _⟩
    · exact Or.inl ⟨a, b⟩
    · obtain ⟨_, _, _, _, _, _, _, _, _, _, _, _, _, _, _, a15⟩ := hd
      rcases a15 with ⟨c1, c2, _⟩ | ⟨c1, c2, v, _, c4, c5⟩
      · exact Or.inl ⟨c1, c2⟩
      · exact Or.inr ⟨c1, c2, c4.trans c5.symm⟩
  rcases key with ⟨a, b⟩ | ⟨a, b, c⟩
  · refine ⟨Or.inl a, fun h => absurd a h, fun _ => ⟨rfl, fun _ => ex1 ⟨fun _ => law_sameL (hK _ (inv_e hI)) rfl (fun h => absurd h (by decide)), fun h => absurd b h⟩, fun h => absurd b h⟩⟩
  · have b' : ¬ z.1 31 29 = 0 := by rw [b]; decide
    refine ⟨Or.inr a, fun _ => ⟨vp_0, ex1 ⟨fun h => absurd h b', fun _ => ex1 ⟨fun h => absurd h b', fun _ => law_sameL (hK _ (inv_fr (fz_I (fz_L fz_rfl rfl) rfl) hI)) rfl (fun _ => c)⟩⟩⟩, fun h => absurd (h.symm.trans a) (by decide)⟩
/-- the cells that a throw changes -/
abbrev Sd0 : Nat → Nat → Bool := fun c k => c == 49 || ((c == 25 && (k == 1 || (k == 6 || k == 7))) || (c == 31 && (k == 0 || (k == 24 || (k == 27 || (k == 29 || k == 30))))))
theorem sd0_f (c k : Nat) (h : c ≠ 49 ∧ c ≠ 25 ∧ c ≠ 31) : Sd0 c k = false := by
  simp only [Bool.or_eq_false_iff, Bool.and_eq_false_iff, beq_eq_false_iff_ne]
  exact ⟨h.1, Or.inl h.2.1, Or.inl h.2.2⟩
theorem inv_dice {A : Ab} {se : Nat → Nat} {sM gM s g n : Nat} {z z' : St} (h : IV A se sM gM z) (hF : Fz Sd0 z z') (hd : DAC s g n z') (hg : GO A se sM gM g z) : Inv z' := by
  obtain ⟨⟨hW0, hP0, hM, hp, hS⟩, h17, hD, hT, hR, hC⟩ := h
  refine ⟨A, se, sM, gM, ⟨hW0, pool_fr (fun c k h1 h2 => sd0_f c k (by omega)) rfl (fun c k h1 h2 => sd0_f c k (by omega)) ⟨rfl, rfl, rfl⟩ hF hP0, mki_fr rfl (fun _ => rfl) hF hM, pas_fr (fun _ => rfl) hF hp, sei_fr (fun _ => rfl) (fun _ => rfl) (fun _ => rfl) (fun _ => rfl) ⟨rfl, rfl⟩ hF hS⟩, (hF 17 0 rfl).1.trans h17, Or.inr ⟨s, g, n, hd, ?_⟩, tci_fr rfl (fun c k h1 h2 => sd0_f c k (by omega)) hF hT, rci_fr ⟨rfl, rfl, rfl⟩ (fun c k h1 h2 => sd0_f c k (by omega)) hF hR, cci_fr rfl (fun c k h => sd0_f c k (by omega)) hF hC⟩
  rcases hg with ⟨a, b, c, d⟩ | ⟨a, b, c⟩
  · exact Or.inl ⟨(hF 31 19 rfl).1.trans a, (hF 0 10 rfl).1.trans b, c, d⟩
  · exact Or.inr ⟨(hF 31 19 rfl).1.trans a, by rw [(hF 31 21 rfl).1]; exact b, c⟩
theorem c_roll {x1 x2 x3 x4 v4 : Int32} {z : St} {K : St → Prop} (hI : Inv z) (hK : ∀ z', Inv z' → K z') : B_13 x1 x2 x3 x4 v4 z K := by
  obtain ⟨A, se, sM, gM, h⟩ := id hI
  have er : ∀ y : Int32, ¬ y ≤ 0 → ¬ y = 0 → J_M_roll_37 (fun (y77 : Int32) (z76 : St) => P_M_thrown z76 (fun (y79 : Int32) (z78 : St) => ((y79 = y) → ((¬ y = 0) → K z78) ∧ ((y = 0) → vp_in (0 : Int32) 1 ∧ (((z78.2 49 (0 : Int32).toNatClampNeg) = y77.toInt64) → K z78) ∧ ((¬ (z78.2 49 (0 : Int32).toNatClampNeg) = y77.toInt64) → False))) ∧ ((¬ y79 = y) → False))) x1 y z := fun y hy hy0 => ex1 ⟨fun h => absurd h hy, fun _ => law_same (hK _ (inv_e hI)) rfl (fun h => absurd h hy0)⟩
  rcases h.2.2.1 with ⟨d0, d1, d2, d3⟩ | ⟨s, g, n, hd, hg⟩
  · refine ⟨fun _ => ⟨fun h => absurd rfl h, fun _ => Or.inl ⟨rfl, fun _ => er 1 n1_0 (by decide), fun h => absurd d2 h⟩⟩, fun h => absurd d0 h⟩
  · obtain ⟨a0, a1, a2, a3, a4, a5, a6, a7, a8, a9, a10, a11, a12, a13, a14, a15⟩ := id hd
    have n25 : ¬ z.1 25 0 = 0 := by rw [a0]; decide
    have n23 : ¬ z.1 31 23 = 0 := by rw [a4]; exact jI_ne0 (by omega) (by omega)
    rcases a15 with ⟨c1, c2, t, v, ht, hv, c6, c24, c7, c27⟩ | ⟨c1, c2, v, hv, c7, c30⟩
    · refine ⟨fun h => absurd h n25, fun _ => ⟨fun h => absurd c1 h, fun _ => ⟨fun _ => ?_, fun h => absurd h (by decide)⟩⟩⟩
      -- a side that the die does not have
      refine ⟨fun b => ⟨fun h => absurd rfl h, fun _ => Or.inr ⟨rfl, fun h => absurd h n23, fun _ => ⟨fun _ => ⟨fun _ => er 2 n2_0 (by decide), fun h => absurd b h⟩, fun h => absurd c2 h⟩⟩⟩, fun b => ⟨fun c => ⟨fun h => absurd rfl h, fun _ => Or.inr ⟨rfl, fun h => absurd h n23, fun _ => ⟨fun _ => ⟨fun h => absurd h b, fun _ => ⟨fun e => absurd e ?_, fun _ => er 2 n2_0 (by decide)⟩⟩, fun h => absurd c2 h⟩⟩⟩, fun c => ⟨fun _ => ?_, fun h => absurd h (by decide)⟩⟩⟩
      · rw [a4, ← a3]; exact i32_nle.mpr c
      have b0 : ¬ x1 < 0 := fun h => b (Int32.lt_trans h (by decide))
      obtain ⟨a, ha, rfl⟩ := i32_nn b0
      rw [show (1 : Int32) = jI 1 from rfl, jI_lt ha (by decide)] at b
      rw [a3, jI_lt (by omega) ha] at c
      have hsn : s ^ (t + 1) ≤ s ^ n := Nat.pow_le_pow_right (by omega) ht
      have hv2 : v * s + (a - 1) < s ^ (t + 1) := by
        rw [Nat.pow_succ]
        have : (v + 1) * s ≤ s ^ t * s := Nat.mul_le_mul_right _ hv
        rw [Nat.add_mul, Nat.one_mul] at this
        omega
      have ev : ∀ (x : Int64) (y : Int32), x = jL v → y = jI s → ((x * y.toInt64) + (jI a).toInt64) - (1 : Int64) = jL (v * s + (a - 1)) := by
        intro x y hx hy
        rw [hx, hy, jI_toL (by omega), jI_toL ha, jL_mul, jL_add, show (1 : Int64) = jL 1 from rfl, jL_sub (by omega), show v * s + a - 1 = v * s + (a - 1) by omega]
      have hlt62 : v * s + (a - 1) < 4611686018427387904 := by omega
      generalize hw : v * s + (a - 1) = w at *
      -- the reference's throw
      have ref : ∀ (z1 : St) (Q : Int32 → St → Prop), z1.1 31 23 = jI s → z1.1 31 29 = 0 → z1.2 31 27 = jL v → z1.1 31 24 = jI t → z1.1 31 25 = jI n → z1.2 31 26 = jL g → z1.2 31 28 = jL (s ^ n) → (¬ t + 1 = n → Q 0 (wI (wL (wI z1 31 0 0) 31 27 (jL w)) 31 24 (jI (t + 1)))) → (t + 1 = n → ¬ w < s ^ n / g * g → Q 2 (wI (wL (wL (wI (wI (wL (wI z1 31 0 0) 31 27 (jL w)) 31 24 (jI (t + 1))) 31 29 0) 31 30 (jL (w % g))) 31 27 0) 31 24 0)) → (t + 1 = n → w < s ^ n / g * g → Q 1 (wI (wL (wL (wI (wI (wL (wI z1 31 0 0) 31 27 (jL w)) 31 24 (jI (t + 1))) 31 29 1) 31 30 (jL (w % g))) 31 27 0) 31 24 0)) → P_M_roll (jI a) z1 Q := by
        intro z1 Q e23 e29 e27 e24 e25 e26 e28 q0 q2 q1
        have gne : ¬ jL g = 0 := by rw [show (0 : Int64) = jL 0 from rfl, jL_eq (by omega) (by decide)]; omega
        have hml : w / g * g ≤ w := Nat.div_mul_le_self _ _
        have hmd : w - w / g * g = w % g := by have := Nat.mod_add_div w g; rw [Nat.mul_comm] at this; omega
        refine ⟨fun h => absurd h (by rw [e23]; exact jI_ne0 (by omega) (by omega)), fun _ => ⟨fun _ => ⟨fun h => absurd h ?_, fun _ => ⟨fun _ => ex1 ⟨fun _ => ex1 (ex1 ?_), fun h => absurd (show (0 : Int32) ≤ 0 by decide) h⟩, fun h => absurd ?_ h⟩⟩, fun h => absurd e29 h⟩⟩
        · rw [show (1 : Int32) = jI 1 from rfl, jI_lt ha (by decide)]; omega
        · rw [ev ((wI z1 31 0 0).2 31 27) ((wI z1 31 0 0).1 31 23) e27 e23, show (wL (wI z1 31 0 0) 31 27 (jL w)).1 31 24 = jI t from e24, jI_s]
          rw [show (wI (wL (wI z1 31 0 0) 31 27 (jL w)) 31 24 (jI (t + 1))).1 31 25 = jI n from e25, show (wI (wL (wI z1 31 0 0) 31 27 (jL w)) 31 24 (jI (t + 1))).1 31 24 = jI (t + 1) from rfl, show (wI (wL (wI z1 31 0 0) 31 27 (jL w)) 31 24 (jI (t + 1))).2 31 26 = jL g from e26, show (wI (wL (wI z1 31 0 0) 31 27 (jL w)) 31 24 (jI (t + 1))).2 31 28 = jL (s ^ n) from e28, show (wI (wL (wI z1 31 0 0) 31 27 (jL w)) 31 24 (jI (t + 1))).2 31 27 = jL w from rfl, jI_le (by omega) (by omega), jL_div (by omega) (by omega), jL_mul]
          have hon : s ^ n / g * g ≤ s ^ n := Nat.div_mul_le_self _ _
          rw [jL_le (by omega) (by omega)]
          have jend : ∀ (y : Int32) (z3 : St), zb y → z3.2 31 26 = jL g → z3.2 31 27 = jL w → ((y = 0) → Q 2 (wI (wL (wL (wI z3 31 29 y) 31 30 (jL (w % g))) 31 27 0) 31 24 0)) → ((¬ y = 0) → Q 1 (wI (wL (wL (wI z3 31 29 y) 31 30 (jL (w % g))) 31 27 0) 31 24 0)) → J_M_roll_119 Q y z3 := by
            intro y z3 hy f26 f27 h0 h1
            refine ⟨hy, ex1 ?_⟩
            rw [show (wI z3 31 29 y).2 31 26 = jL g from f26, show (wI z3 31 29 y).2 31 27 = jL w from f27, jL_div (by omega) (by omega), jL_mul, jL_sub hml, hmd]
            exact ⟨gne, ex1 (ex1 (ex1 ⟨h0, h1⟩))⟩
          refine ⟨fun hge => ⟨gne, fun hle => jend 0 _ (Or.inl rfl) e26 rfl (fun _ => q2 (by omega) (by omega)) (fun h => absurd rfl h), fun hgt => jend 1 _ (Or.inr rfl) e26 rfl (fun h => absurd h (by decide)) (fun _ => q1 (by omega) (by omega))⟩, fun hlt => q0 (by omega)⟩
        · rw [e23, jI_le ha (by omega)]; omega
      -- the office's throw
      refine ex1 (ex1 ?_)
      rw [ev _ _ c7 a3, show (wL z 25 7 (jL w)).1 25 6 = jI t from c6, jI_s]
      have z2e : ∀ c k, (wI (wL z 25 7 (jL w)) 25 6 (jI (t + 1))).1 31 c = z.1 31 c ∧ (wI (wL z 25 7 (jL w)) 25 6 (jI (t + 1))).2 31 k = z.2 31 k := fun _ _ => ⟨rfl, rfl⟩
      rw [show (wI (wL z 25 7 (jL w)) 25 6 (jI (t + 1))).1 25 5 = jI n from a13, show (wI (wL z 25 7 (jL w)) 25 6 (jI (t + 1))).1 25 6 = jI (t + 1) from rfl, show (wI (wL z 25 7 (jL w)) 25 6 (jI (t + 1))).2 25 3 = jL g from a6, show (wI (wL z 25 7 (jL w)) 25 6 (jI (t + 1))).2 25 4 = jL (s ^ n) from a11, show (wI (wL z 25 7 (jL w)) 25 6 (jI (t + 1))).2 25 7 = jL w from rfl, jI_le (by omega) (by omega)]
      have hon : s ^ n / g * g ≤ s ^ n := Nat.div_mul_le_self _ _
      have gne : ¬ jL g = 0 := by rw [show (0 : Int64) = jL 0 from rfl, jL_eq (by omega) (by decide)]; omega
      have hml : w / g * g ≤ w := Nat.div_mul_le_self _ _
      have hmd : w - w / g * g = w % g := by have := Nat.mod_add_div w g; rw [Nat.mul_comm] at this; omega
      rw [jL_div (by omega) (by omega), jL_mul, jL_sub hon, jL_sub (by omega), show s ^ n - (s ^ n - s ^ n / g * g) = s ^ n / g * g by omega, jL_lt (by omega) (by omega), jL_div (by omega) (by omega), jL_mul, jL_sub hml, hmd]
      refine ⟨fun hge => ⟨gne, fun hlt => ⟨gne, ex1 (ex1 ⟨vp_0, ex1 ?_⟩)⟩, fun hnl => ex1 (ex1 ⟨vp_0, ex1 ?_⟩)⟩, fun hlt => ⟨vp_0, ex1 ?_⟩⟩
      · refine ref _ _ a4 c2 c27 c24 a14 a7 a12 (fun h => absurd (by omega) h) (fun _ h => absurd hlt h) (fun _ _ => ?_)
        refine law_same (hK _ (inv_dice h ?_ (s := s) (g := g) (n := n) ⟨a0, a1, a2, a3, a4, a5, a6, a7, a8, a9, a10, a11, a12, a13, a14, Or.inr ⟨rfl, rfl, w % g, Nat.mod_lt _ a5, rfl, rfl⟩⟩ hg)) rfl (fun _ => rfl)
        exact fz_I (fz_L (fz_L (fz_I (fz_I (fz_L (fz_I (fz_L (fz_I (fz_L (fz_I (fz_L fz_rfl rfl) rfl) rfl) rfl) rfl) rfl) rfl) rfl) rfl) rfl) rfl) rfl
      · refine ref _ _ a4 c2 c27 c24 a14 a7 a12 (fun h => absurd (by omega) h) (fun _ _ => ?_) (fun _ h => absurd h hnl)
        refine law_same (hK _ (inv_dice h ?_ (s := s) (g := g) (n := n) ⟨a0, a1, a2, a3, a4, a5, a6, a7, a8, a9, a10, a11, a12, a13, a14, Or.inl ⟨c1, rfl, 0, 0, by omega, by rw [Nat.pow_zero]; exact Nat.zero_lt_one, rfl, rfl, rfl, rfl⟩⟩ hg)) rfl (fun _ => rfl)
        exact fz_I (fz_L (fz_L (fz_I (fz_I (fz_L (fz_I (fz_L (fz_L (fz_I (fz_I (fz_L fz_rfl rfl) rfl) rfl) rfl) rfl) rfl) rfl) rfl) rfl) rfl) rfl) rfl
      · refine ref _ _ a4 c2 c27 c24 a14 a7 a12 (fun _ => ?_) (fun h => absurd h (by omega)) (fun h => absurd h (by omega))
        refine law_same (hK _ (inv_dice h ?_ (s := s) (g := g) (n := n) ⟨a0, a1, a2, a3, a4, a5, a6, a7, a8, a9, a10, a11, a12, a13, a14, Or.inl ⟨c1, c2, t + 1, w, by omega, hv2, rfl, rfl, rfl, rfl⟩⟩ hg)) rfl (fun _ => rfl)
        exact fz_I (fz_L (fz_I (fz_L (fz_I (fz_L fz_rfl rfl) rfl) rfl) rfl) rfl) rfl
    · have n29 : ¬ z.1 31 29 = 0 := by rw [c2]; decide
      have n251 : ¬ z.1 25 1 = 0 := by rw [c1]; decide
      refine ⟨fun h => absurd h n25, fun _ => ⟨fun _ => ⟨fun h => absurd rfl h, fun _ => Or.inl ⟨rfl, fun h => absurd h n23, fun _ => ⟨fun h => absurd h n29, fun _ => er 1 n1_0 (by decide)⟩⟩⟩, fun h => absurd h n251⟩⟩
