/-! The cases: breach, candidate, dropOut, replace. -/
theorem iv_rst {A : Ab} {se : Nat → Nat} {sM gM : Nat} {z : St} (h : IV A se sM gM z) (hS : ST A se z) (hM : MS A se sM gM z) : RST A se sM gM z := ⟨h.1.2.1.2.2.1, h.1.2.1.2.2.2.1, h.1.2.1.2.2.2.2.1, h.1.2.1.2.2.2.2.2, st_r hS, ms_r hM⟩
theorem sq28 (c k : Nat) (e : Sq c k = false) : S28 c k = false := by
  simp only [Bool.or_eq_false_iff, Bool.and_eq_false_iff, decide_eq_false_iff_not, beq_eq_false_iff_ne] at e ⊢
  omega
theorem n265 {A : Ab} {se : Nat → Nat} {z : St} (hW : WF A) (hS : ST A se z) : ¬ z.1 26 5 ≤ 0 := by
  have := hW.2.2.2.2.2.2.1
  have := hW.2.2.2.2.2.2.2
  rw [hS.1, show (0 : Int32) = jI 0 from rfl, jI_le (by omega) (by decide)]; omega
theorem c_breach {x1 x2 x3 x4 v4 : Int32} {z : St} {K : St → Prop} (hI : Inv z) (hK : ∀ z', Inv z' → K z') : B_20 x1 x2 x3 x4 v4 z K := by
  obtain ⟨A, se, sM, gM, h⟩ := id hI
  have hW := h.1.1
  obtain ⟨⟨oK, oP, oV, oQ, oS⟩, rK, rP, rV, rQ, rS⟩ := id h.1.2.1
  rcases id h.1.2.2.2.2 with ⟨d5, d6, d7, d8, d19, d21, d45⟩ | ⟨d19, dle, dST, dMS, dE⟩
  · have e5 : z.1 26 5 ≤ 0 := by rw [d5]; decide
    refine ⟨fun _ => ⟨fun h => absurd rfl h, fun _ => ⟨rfl, fun _ => ex1 ⟨fun h => absurd h n1_0, fun _ => law_same (hK _ (inv_e hI)) rfl (fun h => absurd h (by decide))⟩, fun h => absurd d19 h⟩⟩, fun h => absurd e5 h⟩
  · have n5 := n265 hW dST
    have n19 : ∀ z' : St, z'.1 31 19 = z.1 31 19 → ¬ z'.1 31 19 = 0 := fun z' e => by rw [e, d19]; decide
    refine ⟨fun h => absurd h n5, fun _ => ⟨fun _ => ?_, fun h => absurd h (by decide)⟩⟩
    refine s_breach (x := 0) hW oP oV oQ dST (Nat.zero_le _) (fun z1 hF1 => ⟨vp_0, ex1 ⟨fun h => absurd h (n19 _ (hF1 31 19 rfl).1), fun _ => ex1 ⟨fun _ => ?_, fun h => absurd (show (0 : Int32) ≤ 0 by decide) h⟩⟩⟩)
    have h1 : IV A se sM gM (wI (wL z1 49 (0 : Int32).toNatClampNeg (jI (br A se 0)).toInt64) 31 0 0) := iv_fr (fz_I (fz_L (fz_mono hF1 sq28) rfl) rfl) h
    have hS1 : ST A se (wI (wL z1 49 (0 : Int32).toNatClampNeg (jI (br A se 0)).toInt64) 31 0 0) := st_fr (S := Sq) rfl (fun _ => rfl) (fun _ => rfl) (fz_I (fz_L (fz_mono hF1 sq28) rfl) rfl) dST
    exact m_breach (x := 0) hW h1.1.2.1.2.2.1 h1.1.2.1.2.2.2.1 h1.1.2.1.2.2.2.2.1 h1.1.2.1.2.2.2.2.2 (st_r hS1) (Nat.zero_le _) (law_same (hK _ ⟨A, se, sM, gM, h1⟩) rfl (fun _ => rfl))
theorem c_candidate {x1 x2 x3 x4 v4 : Int32} {z : St} {K : St → Prop} (hI : Inv z) (hK : ∀ z', Inv z' → K z') : B_18 x1 x2 x3 x4 v4 z K := by
  obtain ⟨A, se, sM, gM, h⟩ := id hI
  have hW := h.1.1
  have i8 := hW.2.2.2.2.2.2.2
  have h40 := hW.1
  obtain ⟨⟨oK, oP, oV, oQ, oS⟩, rK, rP, rV, rQ, rS⟩ := id h.1.2.1
  refine ⟨fun a => ?_, fun a => ⟨rfl, fun b => absurd b a, fun _ => ex1 ⟨fun h => absurd h n1_0, fun _ => law_same (hK _ (inv_e hI)) rfl (fun h => absurd h (by decide))⟩⟩⟩
  have none : z.1 26 8 < 0 → (z.1 31 19 = 0 ∨ z.1 31 21 = -1) → P_S_listCandidates z (fun (x3 : Int32) (z2 : St) => ((x3 ≤ x1) → (fun (x2 : Int32) (z1 : St) => vp_in (0 : Int32) 1 ∧ ∀ z3 : St, z3 = wL z1 49 (0 : Int32).toNatClampNeg x2.toInt64 → P_M_candidate x1 z3 (fun (y105 : Int32) (z104 : St) => P_M_thrown z104 (fun (y107 : Int32) (z106 : St) => ((y107 = 0) → ((¬ (0 : Int32) = 0) → K z106) ∧ (((0 : Int32) = 0) → vp_in (0 : Int32) 1 ∧ (((z106.2 49 (0 : Int32).toNatClampNeg) = y105.toInt64) → K z106) ∧ ((¬ (z106.2 49 (0 : Int32).toNatClampNeg) = y105.toInt64) → False))) ∧ ((¬ y107 = 0) → False)))) (-1 : Int32) z2) ∧ ((¬ x3 ≤ x1) → P_S_candidateAt x1 z2 (fun (x5 : Int32) (z4 : St) => (fun (x2 : Int32) (z1 : St) => vp_in (0 : Int32) 1 ∧ ∀ z3 : St, z3 = wL z1 49 (0 : Int32).toNatClampNeg x2.toInt64 → P_M_candidate x1 z3 (fun (y105 : Int32) (z104 : St) => P_M_thrown z104 (fun (y107 : Int32) (z106 : St) => ((y107 = 0) → ((¬ (0 : Int32) = 0) → K z106) ∧ (((0 : Int32) = 0) → vp_in (0 : Int32) 1 ∧ (((z106.2 49 (0 : Int32).toNatClampNeg) = y105.toInt64) → K z106) ∧ ((¬ (z106.2 49 (0 : Int32).toNatClampNeg) = y105.toInt64) → False))) ∧ ((¬ y107 = 0) → False)))) x5 z4))) := by
    intro e8 e
    refine ⟨fun _ => ⟨fun h => absurd rfl h, fun _ => ⟨fun _ => ⟨vp_0, ex1 ⟨fun _ => ex1 ⟨fun _ => ?_, fun h => absurd (show (0 : Int32) ≤ 0 by decide) h⟩, fun b => absurd a b⟩⟩, fun b => absurd a b⟩⟩, fun b => absurd e8 b⟩
    have fin := law_same (K := K) (y := 0) (y' := -1) (hK _ (inv_fr (z' := wI (wL z 49 (0 : Int32).toNatClampNeg (-1 : Int32).toInt64) 31 0 0) (fz_I (fz_L fz_rfl rfl) rfl) hI)) rfl (fun _ => rfl)
    refine ⟨fun _ => fin, fun n19 => ⟨fun n21 => ?_, fun _ => fin⟩⟩
    rcases e with e | e
    · exact absurd e n19
    · exact absurd e n21
  rcases id h.1.2.2.2.2 with ⟨d5, d6, d7, d8, d19, d21, d45⟩ | ⟨d19, dle, dST, dMS, dE⟩
  · exact none (by rw [d8]; decide) (Or.inl d19)
  · rcases dE with ⟨d8, d21⟩ | ⟨e, he, d8, d21, dse⟩
    · exact none (by rw [d8]; decide) (Or.inr d21)
    · obtain ⟨n, hn, rfl⟩ := i32_nn (i32_nlt.mpr a)
      have n268 : ¬ z.1 26 8 < 0 := by rw [d8]; exact jI_nn (by omega)
      have hca := cA_le A se sM gM
      refine s_cands hW oP oV oQ dST dMS n268 (fun z1 hF1 hc => ?_)
      have ref : ∀ (v : Int64) (Q : Int32 → St → Prop), (∀ z3, z3 = wI (wL z1 49 (0 : Int32).toNatClampNeg v) 31 0 0 → IV A se sM gM z3 → (n < cA A se sM gM → Q (jI (iA A se sM gM n)) z3) ∧ (¬ n < cA A se sM gM → Q (-1) z3)) → P_M_candidate (jI n) (wL z1 49 (0 : Int32).toNatClampNeg v) Q := by
        intro v Q hq
        have hF : Fz Sq z (wI (wL z1 49 (0 : Int32).toNatClampNeg v) 31 0 0) := fz_I (fz_L (fz_mono hF1 sq289) rfl) rfl
        have h1 := iv_fr hF h
        have n19 : ¬ (wI (wL z1 49 (0 : Int32).toNatClampNeg v) 31 0 0).1 31 19 = 0 := by rw [(hF 31 19 rfl).1, d19]; decide
        have n21 : ¬ (wI (wL z1 49 (0 : Int32).toNatClampNeg v) 31 0 0).1 31 21 = -1 := by rw [(hF 31 21 rfl).1, d21]; exact jI_m1 (by omega)
        have hq' := hq _ rfl h1
        refine ⟨fun _ => ex1 ⟨fun _ => ⟨fun h => absurd h n19, fun _ => ⟨fun _ => ?_, fun h => absurd h n21⟩⟩, fun h => absurd (show (0 : Int32) ≤ 0 by decide) h⟩, fun b => absurd a b⟩
        rw [jI_toL hn]
        exact m_candAt hW (iv_rst h1 (st_fr rfl (fun _ => rfl) (fun _ => rfl) hF dST) (ms_fr ⟨rfl, rfl⟩ (fun _ => rfl) hF dMS)) (by omega) hq'.1 hq'.2
      refine ⟨fun hle => ⟨vp_0, ex1 (ref _ _ (fun z3 e3 h3 => ⟨fun hlt => ?_, fun _ => ?_⟩))⟩, fun hgt => ?_⟩
      · rw [jI_le (by omega) hn] at hle; omega
      · subst e3
        exact law_same (hK _ ⟨A, se, sM, gM, h3⟩) rfl (fun _ => rfl)
      · rw [jI_le (by omega) hn] at hgt
        have e29 : z1.1 29 (jI n).toNatClampNeg = jI (iA A se sM gM n) := by rw [jI_tn hn]; exact hc n (by omega)
        refine ⟨vp_n (by omega) (by decide), vp_0, ex1 (ref _ _ (fun z3 e3 h3 => ⟨fun _ => ?_, fun h => absurd (by omega) h⟩))⟩
        subst e3
        refine law_same (hK _ ⟨A, se, sM, gM, h3⟩) rfl (fun _ => ?_)
        show (z1.1 29 (jI n).toNatClampNeg).toInt64 = _
        rw [e29]
theorem jL_clear {m n : Nat} (hn : n < 64) (hb : m.testBit n = true) : jL m &&& (jL (2 ^ n) ^^^ (-1 : Int64)) = jL (m ^^^ 2 ^ n) := by
  apply Int64.toBitVec_inj.mp
  show BitVec.ofNat 64 m &&& (BitVec.ofNat 64 (2 ^ n) ^^^ BitVec.allOnes 64) = BitVec.ofNat 64 (m ^^^ 2 ^ n)
  apply BitVec.eq_of_getLsbD_eq
  intro i hi
  rw [BitVec.getLsbD_and, BitVec.getLsbD_xor, BitVec.getLsbD_ofNat, BitVec.getLsbD_ofNat, BitVec.getLsbD_ofNat, BitVec.getLsbD_allOnes, Nat.testBit_xor, Nat.testBit_two_pow, decide_eq_true hi]
  by_cases e : n = i
  · subst e; rw [hb, decide_eq_true rfl]; rfl
  · rw [decide_eq_false e]; cases m.testBit i <;> rfl
abbrev Sdo : Nat → Nat → Bool := fun c k => c == 25 || (c == 26 || (c == 27 || (c == 28 || (c == 29 || (c == 44 || (c == 45 || (c == 49 || (c == 31 && (k == 0 || (k == 21 || (k == 23 || k == 29)))))))))))
theorem sdo_f (c k : Nat) (h : c < 25 ∨ c = 30 ∨ (31 < c ∧ c < 44) ∨ (45 < c ∧ c < 49)) : Sdo c k = false := by
  simp only [Bool.or_eq_false_iff, Bool.and_eq_false_iff, beq_eq_false_iff_ne]
  exact ⟨by omega, by omega, by omega, by omega, by omega, by omega, by omega, by omega, Or.inl (by omega)⟩
theorem inv_seat {A : Ab} {se se' : Nat → Nat} {sM gM sM' gM' : Nat} {z z' : St} (h : IV A se sM gM z) (hF : Fz Sdo z z') (hS : SEI A se' sM' gM' z') (hD : DID z') : Inv z' := by
  obtain ⟨⟨hW0, hP0, hM, hp, _⟩, h17, _, hT, hR, hC⟩ := h
  exact ⟨A, se', sM', gM', ⟨hW0, pool_fr (fun c k h1 h2 => sdo_f c k (by omega)) rfl (fun c k h1 h2 => sdo_f c k (by omega)) ⟨rfl, rfl, rfl⟩ hF hP0, mki_fr rfl (fun _ => rfl) hF hM, pas_fr (fun _ => rfl) hF hp, hS⟩, (hF 17 0 rfl).1.trans h17, Or.inl hD, tci_fr rfl (fun c k h1 h2 => sdo_f c k (by omega)) hF hT, rci_fr ⟨rfl, rfl, rfl⟩ (fun c k h1 h2 => sdo_f c k (by omega)) hF hR, cci_fr rfl (fun c k h => sdo_f c k (by omega)) hF hC⟩
/-- the office empties a person's place -/
theorem s_vacate {A : Ab} {se : Nat → Nat} {n e : Nat} {z : St} {Q : St → Prop} (hW : WF A) (hS : ST A se z) (he : e < sZ A) (hse : se e = n + 1) (hn : n < aN A) (hQ : Q (wL (wL (wI (wI z 27 e (-1)) 26 8 (jI e)) 26 6 (z.2 26 6 &&& (((1 : Int64) <<< ((jI n).toInt64 &&& 63)) ^^^ (-1 : Int64)))) 26 7 (z.2 26 7 ||| ((1 : Int64) <<< ((jI n).toInt64 &&& 63))))) : P_S_vacate (jI n) z Q := by
  have i8 := hW.2.2.2.2.2.2.2
  have h40 := hW.1
  have eqv : ∀ i, i < sZ A → (z.1 27 i = jI n ↔ i = e) := by
    intro i hi
    have hsi := hS.2.2.1 i hi
    rw [(hS.2.1 i hi).1]
    by_cases h0 : se i = 0
    · rw [h0]
      exact ⟨fun h => absurd h.symm (jI_m1 (by omega)), fun h => by subst h; omega⟩
    · rw [sv_nn (by omega) h0, jI_eq (by omega) (by omega)]
      exact ⟨fun h => hS.2.2.2 i e hi he (by omega) h0, fun h => by subst h; omega⟩
  have loop : ∀ (K : Int32 → St → Prop), K (jI n) (wI (wI z 27 e (-1)) 26 8 (jI e)) → ∀ (d i : Nat), i + d = sZ A → (i ≤ e → L_S_vacate_2 K Q (d + 1) (jI n) (jI i) z) ∧ (e < i → L_S_vacate_2 K Q (d + 1) (jI n) (jI i) (wI (wI z 27 e (-1)) 26 8 (jI e))) := by
    intro K hK d
    induction d with
    | zero =>
      intro i hi
      refine ⟨fun h => by omega, fun _ => ⟨fun _ => hK, fun h => absurd ?_ h⟩⟩
      show z.1 26 5 ≤ jI i
      rw [hS.1, jI_le (by omega) (by omega)]; omega
    | succ d ih =>
      intro i hi
      obtain ⟨ih1, ih2⟩ := ih (i + 1) (by omega)
      refine ⟨fun hle => ⟨fun h => absurd h ?_, fun _ => ⟨vp_n (by omega) (by decide), ?_⟩⟩, fun hgt => ⟨fun h => absurd h ?_, fun _ => ⟨vp_n (by omega) (by decide), fun _ => ex1 ?_, fun h => absurd h ?_⟩⟩⟩
      · rw [hS.1, jI_le (by omega) (by omega)]; omega
      · rw [jI_tn (by omega), eqv i (by omega)]
        refine ⟨fun hne => ex1 ?_, fun hee => ⟨vp_n (by omega) (by decide), ex1 (ex1 (ex1 ?_))⟩⟩
        · rw [jI_s]; exact ih1 (by omega)
        · subst hee
          rw [jI_s]; exact ih2 (by omega)
      · show ¬ z.1 26 5 ≤ jI i
        rw [hS.1, jI_le (by omega) (by omega)]; omega
      · rw [jI_s]; exact ih2 (by omega)
      · rw [jI_tn (by omega)]
        show ¬ (wI z 27 e (-1)).1 27 i = jI n
        rw [zI_ne (by omega), eqv i (by omega)]; omega
  exact ⟨_, (loop _ (ex1 (ex1 hQ)) (sZ A) 0 (by omega)).1 (Nat.zero_le _)⟩
theorem c_dropOut {x1 x2 x3 x4 v4 : Int32} {z : St} {K : St → Prop} (hI : Inv z) (hK : ∀ z', Inv z' → K z') : B_17 x1 x2 x3 x4 v4 z K := by
  obtain ⟨A, se, sM, gM, h⟩ := id hI
  have hW := h.1.1
  have i8 := hW.2.2.2.2.2.2.2
  have h40 := hW.1
  obtain ⟨⟨oK, oP, oV, oQ, oS⟩, rK, rP, rV, rQ, rS⟩ := id h.1.2.1
  have er : ∀ y : Int32, ¬ y ≤ 0 → J_M_dropOut_38 (fun (z99 : St) => P_M_thrown z99 (fun (y101 : Int32) (z100 : St) => ((y101 = y) → K z100) ∧ ((¬ y101 = y) → False))) x1 y z := fun y hy => ex1 ⟨fun h => absurd h hy, fun _ => law_code (hK _ (inv_e hI)) rfl⟩
  rcases id h.1.2.2.2.2 with ⟨d5, d6, d7, d8, d19, d21, d45⟩ | ⟨d19, dle, dST, dMS, dE⟩
  · have e5 : z.1 26 5 ≤ 0 := by rw [d5]; decide
    exact ⟨fun _ => ⟨fun h => absurd rfl h, fun _ => Or.inl ⟨rfl, fun _ => er 1 n1_0, fun h => absurd d19 h⟩⟩, fun h => absurd e5 h⟩
  · have n5 := n265 hW dST
    have n19 : ¬ z.1 31 19 = 0 := by rw [d19]; decide
    refine ⟨fun h => absurd h n5, fun _ => ⟨fun _ => ?_, fun h => absurd h (by decide)⟩⟩
    rcases dE with ⟨d8, d21⟩ | ⟨e, he, d8, d21, dse⟩
    · have e268 : z.1 26 8 < 0 := by rw [d8]; decide
      have did : DID z := by
        rcases id h.2.2.1 with hd | ⟨s, g, n, hd, hg⟩
        · exact hd
        · rcases hg with ⟨a, _⟩ | ⟨_, b, _⟩
          · exact absurd a n19
          · exact absurd d21 b
      obtain ⟨m6, m7, ms, mg, mse, mgo⟩ := id dMS
      have m63 : sM < 9223372036854775808 := Nat.lt_of_lt_of_le ms (by decide)
      -- the reference has no such member
      have no : (∀ n, x1 = jI n → n < 2147483648 → ∀ i, i < sZ A → se i ≠ n + 1) → P_M_dropOut x1 z (fun (z99 : St) => P_M_thrown z99 (fun (y101 : Int32) (z100 : St) => ((y101 = 2) → K z100) ∧ ((¬ y101 = 2) → False))) := by
        intro hno
        refine ⟨fun h => absurd h n19, fun _ => ⟨fun _ => ⟨fun _ => er 2 n2_0, fun a => ?_⟩, fun h => absurd d21 h⟩⟩
        obtain ⟨n, hn, hx⟩ := i32_nn a
        have hno' := hno n hx hn
        rw [hx]
        refine m_placeOf hW rS (st_r dST) hn (fun i hi e => absurd e (hno' i hi)) (fun _ => ⟨fun h => absurd rfl h, fun _ => ?_⟩)
        rw [← hx]; exact er 2 n2_0
      refine ⟨fun _ => ⟨fun _ => ?_, fun h => absurd rfl h⟩, fun h => absurd e268 h⟩
      refine ⟨fun a => ⟨fun h => absurd rfl h, fun _ => Or.inr ⟨rfl, no (fun n hx hn => absurd a (by rw [hx]; exact jI_nn hn))⟩⟩, fun a => ⟨fun b => ⟨fun h => absurd rfl h, fun _ => Or.inr ⟨rfl, no (fun n hx hn i hi e => ?_)⟩⟩, fun b => ?_⟩⟩
      · rw [hx, oP.1, jI_le (by omega) hn] at b
        have := dST.2.2.1 i hi
        omega
      obtain ⟨n, hn, rfl⟩ := i32_nn a
      have hna : n < aN A := by rw [oP.1, jI_le (by omega) hn] at b; omega
      rw [m6]
      refine s_isIn m63 (by omega) ?_
      cases hb : sM.testBit n with
      | false =>
        refine ⟨fun _ => ⟨fun h => absurd rfl h, fun _ => Or.inr ⟨rfl, no (fun n' hx hn' i hi e => ?_)⟩⟩, fun h => absurd rfl h⟩
        rw [jI_eq hn hn'] at hx
        subst hx
        have := (mse n hna).mpr ⟨i, hi, e⟩
        rw [hb] at this; exact absurd this (by decide)
      | true =>
        obtain ⟨e, he, hse⟩ := (mse n hna).mp hb
        refine ⟨fun h => absurd h (by decide), fun _ => ⟨fun _ => ?_, fun h => absurd h (by decide)⟩⟩
        refine s_vacate hW dST he hse hna (ex1 (ex1 ?_))
        rw [m6, m7, sh_63 n (by omega), sh_1 n (by omega), jL_clear (by omega) hb, jL_or]
        generalize hz1 : wI (wI (wL (wL (wI (wI z 27 e (-1)) 26 8 (jI e)) 26 6 (jL (sM ^^^ 2 ^ n))) 26 7 (jL (gM ||| 2 ^ n))) 25 0 0) 25 1 0 = z1
        have hF1 : Fz Sdo z z1 := by rw [← hz1]; exact fz_I (fz_I (fz_L (fz_L (fz_I (fz_I fz_rfl rfl) rfl) rfl) rfl) rfl) rfl
        have z27 : ∀ i, i < sZ A → z1.1 27 i = sv (fup se e 0 i) := by
          intro i hi
          rw [← hz1]
          show (wI z 27 e (-1)).1 27 i = _
          by_cases c : i = e
          · subst c; rw [zI_at, fup_at]; rfl
          · rw [zI_ne c, fup_ne c]; exact (dST.2.1 i hi).1
        have ck : ∀ c k, c ≠ 25 → c ≠ 26 → c ≠ 27 → z1.1 c k = z.1 c k ∧ z1.2 c k = z.2 c k := by
          intro c k h25 h26 h27
          rw [← hz1]
          refine ⟨?_, ?_⟩
          · show (if c = 25 then _ else (if c = 25 then _ else (if c = 26 then _ else (if c = 27 then _ else _)))) = _
            rw [if_neg h25, if_neg h25, if_neg h26, if_neg h27]
          · show (if c = 26 then _ else (if c = 26 then _ else _)) = _
            rw [if_neg h26, if_neg h26]; rfl
        have rS1 : RS A z1 := (ck 31 7 (by decide) (by decide) (by decide)).1.trans rS
        -- the reference finds the place, twice
        have pl : ∀ (z2 : St) (Q : Int32 → St → Prop), (∀ i, i < sZ A → z2.1 44 i = z.1 44 i) → z2.1 31 7 = jI (sZ A) → Q (jI e) z2 → P_M_placeOf (jI n) z2 Q := by
          intro z2 Q h44 h7 hq
          have eqv : ∀ i, i < sZ A → (z2.1 44 i = jI n ↔ i = e) := by
            intro i hi
            have hsi := dST.2.2.1 i hi
            rw [h44 i hi, (dST.2.1 i hi).2]
            by_cases h0 : se i = 0
            · rw [h0]
              exact ⟨fun h => absurd h.symm (jI_m1 hn), fun h => by subst h; omega⟩
            · rw [sv_nn (by omega) h0, jI_eq (by omega) hn]
              exact ⟨fun h => dST.2.2.2 i e hi he (by omega) h0, fun h => by subst h; omega⟩
          have loop : ∀ (d i : Nat) (y : Int32), i + d = sZ A → (e < i → y = jI e) → L_M_placeOf_4 Q (d + 1) (jI n) y (jI i) z2 := by
            intro d
            induction d with
            | zero =>
              intro i y hi hy
              refine ⟨fun _ => ?_, fun h => absurd ?_ h⟩
              · rw [hy (by omega)]; exact hq
              · rw [h7, jI_le (by omega) (by omega)]; omega
            | succ d ih =>
              intro i y hi hy
              refine ⟨fun h => absurd h ?_, fun _ => ⟨vp_n (by omega) (by decide), ?_⟩⟩
              · rw [h7, jI_le (by omega) (by omega)]; omega
              rw [jI_tn (by omega), eqv i (by omega)]
              refine ⟨fun hne => ex1 ?_, fun hee => ex1 ?_⟩
              · rw [jI_s]
                exact ih (i + 1) y (by omega) (fun h => hy (by omega))
              · subst hee
                rw [jI_s]
                exact ih (i + 1) (jI i) (by omega) (fun _ => rfl)
          exact ⟨_, loop (sZ A) 0 (-1) (by omega) (fun h => absurd h (Nat.not_lt_zero e))⟩
        refine ⟨fun h => absurd ((ck 31 19 (by decide) (by decide) (by decide)).1.symm.trans h) n19, fun _ => ⟨fun _ => ⟨fun h => absurd h a, fun _ => ?_⟩, fun h => absurd ((ck 31 21 (by decide) (by decide) (by decide)).1.trans d21) h⟩⟩
        refine pl z1 _ (fun i _ => (ck 44 i (by decide) (by decide) (by decide)).1) rS1 ⟨fun _ => ex1 ⟨fun _ => ?_, fun h => absurd (show (0 : Int32) ≤ 0 by decide) h⟩, fun h => absurd h (jI_m1 (by omega))⟩
        refine pl (wI z1 31 0 0) _ (fun i _ => (ck 44 i (by decide) (by decide) (by decide)).1) rS1 (ex1 ⟨vp_n (by omega) (by decide), ex1 ⟨vp_n (by omega) (by decide), ex1 ?_⟩⟩)
        rw [show (wI (wI z1 31 0 0) 31 21 (jI e)).1 31 21 = jI e from rfl, jI_tn (n := e) (by omega), jI_tn (n := n) (by omega)]
        have gl : gM ||| 2 ^ n < 2 ^ 40 := or_lt mg (Nat.pow_lt_pow_right (by decide) (by omega))
        have sl : sM ^^^ 2 ^ n < 2 ^ 40 := Nat.xor_lt_two_pow ms (Nat.pow_lt_pow_right (by decide) (by omega))
        refine law_code (hK _ (inv_seat (se' := fup se e 0) (sM' := sM ^^^ 2 ^ n) (gM' := gM ||| 2 ^ n) h (fz_I (fz_I (fz_I (fz_I hF1 rfl) rfl) rfl) rfl) (Or.inr ⟨?_, dle, ⟨?_, fun i hi => ⟨z27 i hi, ?_⟩, fun i hi => ?_, fun i i' hi hi' ee h0 => ?_⟩, ⟨?_, ?_, sl, gl, fun p hp => ?_, fun p hp => ?_⟩, Or.inr ⟨e, he, ?_, rfl, fup_at⟩⟩) ⟨?_, ?_, ?_, ?_⟩)) rfl
        · exact (ck 31 19 (by decide) (by decide) (by decide)).1.trans d19
        · rw [show (wI (wI (wI (wI z1 31 0 0) 31 21 (jI e)) 44 e (-1)) 45 n 1).1 26 5 = z1.1 26 5 from rfl, ← hz1]; exact dST.1
        · show (wI (wI (wI z1 31 0 0) 31 21 (jI e)) 44 e (-1)).1 44 i = _
          by_cases c : i = e
          · subst c; rw [zI_at, fup_at]; rfl
          · rw [zI_ne c, fup_ne c]
            exact (ck 44 i (by decide) (by decide) (by decide)).1.trans (dST.2.1 i hi).2
        · by_cases c : i = e
          · subst c; rw [fup_at]; exact Nat.zero_le _
          · rw [fup_ne c]; exact dST.2.2.1 i hi
        · by_cases c : i = e
          · subst c; rw [fup_at] at h0; exact absurd rfl h0
          · by_cases c' : i' = e
            · subst c'; rw [ee, fup_at] at h0; exact absurd rfl h0
            · rw [fup_ne c] at ee h0
              rw [fup_ne c'] at ee
              exact dST.2.2.2 i i' hi hi' ee h0
        · rw [show (wI (wI (wI (wI z1 31 0 0) 31 21 (jI e)) 44 e (-1)) 45 n 1).2 26 6 = z1.2 26 6 from rfl, ← hz1]; rfl
        · rw [show (wI (wI (wI (wI z1 31 0 0) 31 21 (jI e)) 44 e (-1)) 45 n 1).2 26 7 = z1.2 26 7 from rfl, ← hz1]; rfl
        · rw [Nat.testBit_xor, Nat.testBit_two_pow]
          by_cases c : n = p
          · subst c
            rw [hb, decide_eq_true rfl]
            refine ⟨fun h => absurd h (by decide), fun ⟨i, hi, ei⟩ => ?_⟩
            exfalso
            by_cases ci : i = e
            · subst ci; rw [fup_at] at ei; omega
            · rw [fup_ne ci] at ei
              exact ci (dST.2.2.2 i e hi he (ei.trans hse.symm) (by omega))
          · rw [decide_eq_false c, Bool.xor_false, mse p hp]
            constructor
            · rintro ⟨i, hi, ei⟩
              refine ⟨i, hi, ?_⟩
              rw [fup_ne (fun ci => by subst ci; omega)]; exact ei
            · rintro ⟨i, hi, ei⟩
              refine ⟨i, hi, ?_⟩
              by_cases ci : i = e
              · subst ci; rw [fup_at] at ei; omega
              · rw [fup_ne ci] at ei; exact ei
        · rw [Nat.testBit_or, Nat.testBit_two_pow]
          by_cases c : p = n
          · subst c
            rw [decide_eq_true rfl, Bool.or_true]
            exact zI_at
          · rw [decide_eq_false (fun h => c h.symm), Bool.or_false]
            refine (zI_ne c).trans ?_
            exact (ck 45 p (by decide) (by decide) (by decide)).1.trans (mgo p hp)
        · rw [show (wI (wI (wI (wI z1 31 0 0) 31 21 (jI e)) 44 e (-1)) 45 n 1).1 26 8 = z1.1 26 8 from rfl, ← hz1]; rfl
        · rw [show (wI (wI (wI (wI z1 31 0 0) 31 21 (jI e)) 44 e (-1)) 45 n 1).1 25 0 = z1.1 25 0 from rfl, ← hz1]; rfl
        · rw [show (wI (wI (wI (wI z1 31 0 0) 31 21 (jI e)) 44 e (-1)) 45 n 1).1 25 1 = z1.1 25 1 from rfl, ← hz1]; rfl
        · exact (ck 31 23 (by decide) (by decide) (by decide)).1.trans did.2.2.1
        · exact (ck 31 29 (by decide) (by decide) (by decide)).1.trans did.2.2.2
    · have n268 : ¬ z.1 26 8 < 0 := by rw [d8]; exact jI_nn (by omega)
      have n21 : ¬ z.1 31 21 = -1 := by rw [d21]; exact jI_m1 (by omega)
      exact ⟨fun h => absurd h n268, fun _ => ⟨fun h => absurd h (by decide), fun _ => Or.inl ⟨rfl, fun h => absurd h n19, fun _ => ⟨fun h => absurd h n21, fun _ => er 1 n1_0⟩⟩⟩⟩
