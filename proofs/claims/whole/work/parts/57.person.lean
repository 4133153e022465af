/-! The pure side: person. -/
theorem j47_1 {x1 x2 x3 : Int32} {z : St} {Q : Int32 → St → Prop} (h : Q 0 (wI z 31 0 1)) : J_M_person_47 Q x1 x2 x3 1 z :=
  ⟨fun h => absurd h (by decide), fun _ => ex1 ⟨fun h => absurd h n1_0, fun _ => h⟩⟩
theorem mp_bad {A : Ab} {x1 x2 x3 : Int32} {z : St} {Q : Int32 → St → Prop} (rV : RV A z) (hb : x1 < 0 ∨ jI (vS A 0) ≤ x1 ∨ x2 < 0 ∨ jI (vS A 1) ≤ x2 ∨ x3 < 0 ∨ jI (vS A 2) ≤ x3) (h : Q 0 (wI z 31 0 1)) : P_M_person x1 x2 x3 z Q := by
  refine ⟨fun _ => j47_1 h, fun a => ⟨by unfold vp_in; decide, fun _ => j47_1 h, fun b => ⟨fun _ => j47_1 h, fun c => ⟨by unfold vp_in; decide, fun _ => j47_1 h, fun d => ⟨fun _ => j47_1 h, fun e => ⟨by unfold vp_in; decide, fun f => ?_, fun _ => j47_1 h⟩⟩⟩⟩⟩⟩
  have b' : ¬ jI (vS A 0) ≤ x1 := by rw [← rV 0 (by decide)]; exact b
  have d' : ¬ jI (vS A 1) ≤ x2 := by rw [← rV 1 (by decide)]; exact d
  have f' : ¬ jI (vS A 2) ≤ x3 := by rw [← rV 2 (by decide)]; exact i32_nle.mpr f
  exact (((((hb.resolve_left a).resolve_left b').resolve_left c).resolve_left d').elim e f').elim
theorem mp_good {A : Ab} {x1 x2 x3 : Nat} {z : St} {Q : Int32 → St → Prop} (hW : WF A) (rV : RV A z) (h1 : x1 < vS A 0) (h2 : x2 < vS A 1) (h3 : x3 < vS A 2) (h : J_M_person_47 Q (jI x1) (jI x2) (jI x3) 0 z) : P_M_person (jI x1) (jI x2) (jI x3) z Q := by
  have v0 := (hW.2.2.2.2.1 0 (by decide)).2
  have v1 := (hW.2.2.2.2.1 1 (by decide)).2
  have v2 := (hW.2.2.2.2.1 2 (by decide)).2
  refine ⟨fun a => absurd a (jI_nn (by omega)), fun _ => ⟨by unfold vp_in; decide, fun a => absurd a ?_, fun _ => ⟨fun a => absurd a (jI_nn (by omega)), fun _ => ⟨by unfold vp_in; decide, fun a => absurd a ?_, fun _ => ⟨fun a => absurd a (jI_nn (by omega)), fun _ => ⟨by unfold vp_in; decide, fun _ => h, fun a => absurd ?_ a⟩⟩⟩⟩⟩⟩
  · show ¬ z.1 34 0 ≤ jI x1
    rw [rV 0 (by decide), jI_le (by omega) (by omega)]; omega
  · show ¬ z.1 34 1 ≤ jI x2
    rw [rV 1 (by decide), jI_le (by omega) (by omega)]; omega
  · show jI x3 < z.1 34 2
    rw [rV 2 (by decide), jI_lt (by omega) (by omega)]; omega
theorem m_new {A : Ab} {c N : Nat} {z : St} {Q : Int32 → St → Prop} {K : Int32 → St → Prop} (hk : kN A ≤ 16) (hD : ∀ k, k < kN A → kC A k < 64) (rK : RK A z) (hN : N < 40) (hc : c < 64) (h31 : z.1 31 1 = jI N) (hv : ∀ t, t < 3 → z.1 32 (3 * N + t) = jI (dg c t)) (h1 : (∀ k, k < kN A → kC A k ≠ c) → K 1 z) (h0 : ∀ k, k < kN A → kC A k = c → K 0 z) : ∃ k, L_M_person_138 K Q k 1 0 z := by
  have l0 : K 0 z → ∀ (d k : Nat), k + d = kN A → L_M_person_138 K Q (d + 1) 0 (jI k) z := by
    intro hK d
    induction d with
    | zero =>
      intro k hkd
      refine ⟨fun _ => hK, fun h => absurd ?_ h⟩
      rw [rK.1, jI_le (by omega) (by omega)]; omega
    | succ d ih =>
      intro k hkd
      refine ⟨fun h => absurd h ?_, fun _ => ⟨fun _ => ex1 ?_, fun h => absurd rfl h⟩⟩
      · rw [rK.1, jI_le (by omega) (by omega)]; omega
      · rw [jI_s]; exact ih (k + 1) (by omega)
  have l1 : ∀ (d k : Nat), k + d = kN A → (∀ j, j < k → kC A j ≠ c) → L_M_person_138 K Q (d + 1) 1 (jI k) z := by
    intro d
    induction d with
    | zero =>
      intro k hkd hj
      refine ⟨fun _ => h1 (fun j hj' => hj j (by omega)), fun h => absurd ?_ h⟩
      rw [rK.1, jI_le (by omega) (by omega)]; omega
    | succ d ih =>
      intro k hkd hj
      have hkk : k < kN A := by omega
      have h64 := hD k hkk
      refine ⟨fun h => absurd h ?_, fun _ => ⟨fun h => absurd h (by decide), fun _ => ⟨vp_n (by omega) (by decide), ?_⟩⟩⟩
      · rw [rK.1, jI_le (by omega) (by omega)]; omega
      rw [h31, jI_tn (by omega), rK.2.1 k hkk]
      refine m_is hN hc hv ⟨fun e => ex1 ?_, fun e => ex1 ?_⟩
      · rw [jI_eq (by omega) (by omega)] at e
        rw [jI_s]; exact l0 (h0 k hkk e) d (k + 1) (by omega)
      · rw [jI_eq (by omega) (by omega)] at e
        rw [jI_s]
        refine ih (k + 1) (by omega) (fun j hj' => ?_)
        by_cases e2 : j = k
        · subst e2; exact e
        · exact hj j (by omega)
  exact ⟨_, l1 (kN A) 0 (by omega) (fun j hj => absurd hj (Nat.not_lt_zero _))⟩
theorem code_of : ∀ a : Nat, a < 4 → ∀ b : Nat, b < 4 → ∀ c : Nat, c < 4 → (((jI a <<< ((2 : Int32) &&& 31)) + jI b) <<< ((2 : Int32) &&& 31)) + jI c = jI (16 * a + 4 * b + c) := by decide +kernel
theorem code_dg {a b c : Nat} (ha : a < 4) (hb : b < 4) (hc : c < 4) : dg (16 * a + 4 * b + c) 0 = a ∧ dg (16 * a + 4 * b + c) 1 = b ∧ dg (16 * a + 4 * b + c) 2 = c := by
  refine ⟨?_, ?_, ?_⟩
  · show (16 * a + 4 * b + c) / 16 % 4 = a; omega
  · show (16 * a + 4 * b + c) / 4 % 4 = b; omega
  · show (16 * a + 4 * b + c) / 1 % 4 = c; omega
abbrev Se : Nat → Nat → Bool := fun c k => c == 32 || (c == 31 && k == 0)
abbrev Sy : Nat → Nat → Bool := fun c k => c == 33 || (c == 45 || Sx c k)
theorem b_person {A : Ab} {x1 x2 x3 x4 v4 : Int32} {z : St} {K : St → Prop} (hW : WF A) (hP : Pool A z) (hd : DR z) (hE : ∀ z', Fz Se z z' → Pool A z' → K z')
    (hS : z.1 31 19 = 0 → ∀ A' z', WF A' → Pool A' z' → aN A' = aN A + 1 → Fz Sy z z' → (∀ p, p ≠ aN A → z'.1 33 p = z.1 33 p ∧ z'.1 45 p = z.1 45 p) → z'.1 33 (aN A) = 0 → z'.1 45 (aN A) = 0 → Chg z' → K z') : B_1 x1 x2 x3 x4 v4 z K := by
  obtain ⟨⟨oK, oP, oV, oQ, oS⟩, rK, rP, rV, rQ, rS⟩ := id hP
  have hK16 := hW.2.1
  have h40 := hW.1
  have v0 := (hW.2.2.2.2.1 0 (by decide)).2
  have v1 := (hW.2.2.2.2.1 1 (by decide)).2
  have v2 := (hW.2.2.2.2.1 2 (by decide)).2
  have hEy : ∀ y, K (wI z 31 0 y) := fun y => hE _ (fz_I fz_rfl rfl) hP
  have bad : ∀ hb : x1 < 0 ∨ jI (vS A 0) ≤ x1 ∨ x2 < 0 ∨ jI (vS A 1) ≤ x2 ∨ x3 < 0 ∨ jI (vS A 2) ≤ x3, P_M_person x1 x2 x3 z (fun (y9 : Int32) (z8 : St) => P_M_thrown z8 (fun (y11 : Int32) (z10 : St) => ((y11 = 1) → ((¬ (1 : Int32) = 0) → K z10) ∧ (((1 : Int32) = 0) → vp_in (0 : Int32) 1 ∧ (((z10.2 49 (0 : Int32).toNatClampNeg) = y9.toInt64) → K z10) ∧ ((¬ (z10.2 49 (0 : Int32).toNatClampNeg) = y9.toInt64) → False))) ∧ ((¬ y11 = 1) → False))) :=
    fun hb => mp_bad rV hb (law_same (hEy 1) rfl (fun h => absurd h (by decide)))
  unfold B_1 P_L_person P_O_person
  refine s_hv (t := 0) (by decide) hW oV (fun a ha ea => ⟨fun h => absurd h (by decide), fun _ => ?_⟩) (fun hb => ⟨fun _ => Or.inl ⟨rfl, bad (hb.elim Or.inl (fun h => Or.inr (Or.inl h)))⟩, fun h => absurd rfl h⟩)
  refine s_hv (t := 1) (by decide) hW oV (fun b hb eb => ⟨fun h => absurd h (by decide), fun _ => ?_⟩) (fun hb => ⟨fun _ => Or.inl ⟨rfl, bad (Or.inr (Or.inr (hb.elim Or.inl (fun h => Or.inr (Or.inl h)))))⟩, fun h => absurd rfl h⟩)
  refine s_hv (t := 2) (by decide) hW oV (fun c hc ec => ⟨fun _ => ?_, fun h => absurd h (by decide)⟩) (fun hb => ⟨fun h => absurd rfl h, fun _ => Or.inl ⟨rfl, bad (Or.inr (Or.inr (Or.inr (Or.inr hb))))⟩⟩)
  subst ea; subst eb; subst ec
  obtain ⟨d0, d1, d2⟩ := code_dg (a := a) (b := b) (c := c) (by omega) (by omega) (by omega)
  refine ⟨fun hopn => ⟨fun _ => ?_, fun h => absurd rfl h⟩, fun hdr => ⟨fun h => absurd h (by decide), fun _ => ?_⟩⟩
  · have hnd : z.1 31 19 = 0 := hd.elim (fun h => h.2) (fun h => absurd hopn h.1)
    unfold P_P_codeOf
    rw [code_of a (by omega) b (by omega) c (by omega)]
    have hc64 : 16 * a + 4 * b + c < 64 := by omega
    generalize hgc : 16 * a + 4 * b + c = C at hc64 d0 d1 d2 ⊢
    have hkc : ∀ k, k < kN A → kC A k < 64 := fun k hk => (hW.2.2.1.2.1 k hk).1
    have full : (40 : Int32) ≤ z.1 1 4 → P_M_person (jI a) (jI b) (jI c) z (fun (y9 : Int32) (z8 : St) => P_M_thrown z8 (fun (y11 : Int32) (z10 : St) => ((y11 = 2) → ((¬ (2 : Int32) = 0) → K z10) ∧ (((2 : Int32) = 0) → vp_in (0 : Int32) 1 ∧ (((z10.2 49 (0 : Int32).toNatClampNeg) = y9.toInt64) → K z10) ∧ ((¬ (z10.2 49 (0 : Int32).toNatClampNeg) = y9.toInt64) → False))) ∧ ((¬ y11 = 2) → False))) := by
      intro h4
      rw [oP.1, show (40 : Int32) = jI 40 from rfl, jI_le (by decide) (by omega)] at h4
      have e40 : aN A = 40 := by omega
      refine mp_good hW rV ha hb hc ⟨fun _ => ⟨fun h => absurd hnd h, fun _ => ⟨fun h => absurd ?_ h, fun _ => ex1 ⟨fun h => absurd h n2_0, fun _ => law_same (hEy 2) rfl (fun h => absurd h (by decide))⟩⟩⟩, fun h => absurd rfl h⟩
      rw [rP.1, e40]; rfl
    -- what the reference does with a person for whom there is room in the pool
    have ref : aN A < 40 → ∀ (z1 : St) (Q : Int32 → St → Prop), RK A z1 → RP A z1 → RV A z1 → z1.1 31 19 = 0 → ((∀ k, k < kN A → kC A k ≠ C) → kN A = 16 → ∀ z', Fz Se z1 z' → z'.1 31 0 = 2 → RP A z' → Q 0 z') → (((∃ k, k < kN A ∧ kC A k = C) ∨ kN A ≠ 16) → ∀ z', Fz Se z1 z' → RP A z' → (∀ t, t < 3 → z'.1 32 (3 * aN A + t) = jI (dg C t)) → J_M_person_203 Q 0 z') → P_M_person (jI a) (jI b) (jI c) z1 Q := by
      intro hlt z1 Q rK rP rV hnd hq hj
      refine mp_good hW rV ha hb hc ⟨fun _ => ⟨fun h => absurd hnd h, fun _ => ⟨fun _ => ?_, fun h => absurd h ?_⟩⟩, fun h => absurd rfl h⟩
      · refine ex1 ⟨fun _ => ?_, fun h => absurd (show (0 : Int32) ≤ 0 by decide) h⟩
        have e31 : ∀ {z' : St}, z'.1 31 1 = z1.1 31 1 → z'.1 31 1 = jI (aN A) := fun h => h.trans rP.1
        rw [show (wI z1 31 0 0).1 31 1 = jI (aN A) from rP.1, show (3 : Int32) = jI 3 from rfl, jI_mul, jI_tn (by omega)]
        refine ⟨vp_n (by omega) (by decide), ex1 ?_⟩
        rw [show (wI (wI z1 31 0 0) 32 (3 * aN A) (jI a)).1 31 1 = jI (aN A) from rP.1, jI_mul, show (1 : Int32) = jI 1 from rfl, jI_add, jI_tn (by omega)]
        refine ⟨vp_n (by omega) (by decide), ex1 ?_⟩
        rw [show (wI (wI (wI z1 31 0 0) 32 (3 * aN A) (jI a)) 32 (3 * aN A + 1) (jI b)).1 31 1 = jI (aN A) from rP.1, jI_mul, show (2 : Int32) = jI 2 from rfl, jI_add, jI_tn (by omega)]
        refine ⟨vp_n (by omega) (by decide), ex1 ?_⟩
        generalize hz2 : wI (wI (wI (wI z1 31 0 0) 32 (3 * aN A) (jI a)) 32 (3 * aN A + 1) (jI b)) 32 (3 * aN A + 2) (jI c) = z2
        have hF : Fz Se z1 z2 := by rw [← hz2]; exact fz_I (fz_I (fz_I (fz_I fz_rfl rfl) rfl) rfl) rfl
        have hne : ∀ q, q < 3 * aN A → z2.1 32 q = z1.1 32 q := by
          intro q hq
          rw [← hz2, zI_ne (by omega), zI_ne (by omega), zI_ne (by omega)]; rfl
        have hv : ∀ t, t < 3 → z2.1 32 (3 * aN A + t) = jI (dg C t) := by
          intro t ht
          rw [← hz2]
          match t, ht with
          | 0, _ => rw [zI_ne (by omega), zI_ne (by omega), d0]; exact zI_at
          | 1, _ => rw [zI_ne (by omega), zI_at, d1]
          | 2, _ => rw [zI_at, d2]
        have rP2 : RP A z2 := ⟨(hF 31 1 rfl).1.trans rP.1, fun p hp t ht => (hne _ (by omega)).trans (rP.2 p hp t ht)⟩
        have rK2 : RK A z2 := rk_fr ⟨rfl, fun _ => rfl, fun _ => rfl⟩ hF rK
        refine m_new hK16 hkc rK2 hlt hc64 rP2.1 hv (fun hno => ⟨fun h => absurd h (by decide), fun _ => ⟨fun h16 => ?_, fun h16 => ?_⟩⟩) (fun k hk e => ⟨fun _ => hj (Or.inl ⟨k, hk, e⟩) z2 hF rP2 hv, fun h => absurd rfl h⟩)
        · refine hj (Or.inr (fun e => h16 ?_)) z2 hF rP2 hv
          rw [rK2.1, e]; rfl
        · have e16 : kN A = 16 := by rw [rK2.1, show (16 : Int32) = jI 16 from rfl, jI_eq (by omega) (by decide)] at h16; exact h16
          exact ex1 ⟨fun h => absurd h n2_0, fun _ => hq hno e16 _ (fz_I hF rfl) rfl rP2⟩
      · rw [rP.1, show (40 : Int32) = jI 40 from rfl, jI_eq (by omega) (by decide)]; omega
    have room : aN A < 40 → (kN A < 16 ∨ ∃ k, k < kN A ∧ kC A k = C) → P_O_changed z (fun (z12 : St) => P_P_add (jI C) z12 (fun (x14 : Int32) (z13 : St) => vp_in (0 : Int32) 1 ∧ ∀ z3 : St, z3 = wL z13 49 (0 : Int32).toNatClampNeg x14.toInt64 → P_M_person (jI a) (jI b) (jI c) z3 (fun (y9 : Int32) (z8 : St) => P_M_thrown z8 (fun (y11 : Int32) (z10 : St) => ((y11 = 0) → ((¬ (0 : Int32) = 0) → K z10) ∧ (((0 : Int32) = 0) → vp_in (0 : Int32) 1 ∧ (((z10.2 49 (0 : Int32).toNatClampNeg) = y9.toInt64) → K z10) ∧ ((¬ (z10.2 49 (0 : Int32).toNatClampNeg) = y9.toInt64) → False))) ∧ ((¬ y11 = 0) → False))))) := by
      intro hlt hroom
      refine ex1 (ex1 (ex1 (ex1 (s_add hW.2.2.1 hK16 hlt oK oP hc64 hroom (fun n f g z1 hn hF1 kD1 oK1 oP1 => ⟨vp_0, ex1 ?_⟩)))))
      have rK1 : RK A z1 := rk_fr ⟨rfl, fun _ => rfl, fun _ => rfl⟩ hF1 rK
      have rP1 : RP A z1 := rp_fr ⟨rfl, fun _ => rfl⟩ hF1 rP
      have rV1 : RV A z1 := rv_fr (fun _ => rfl) hF1 rV
      refine ref hlt _ _ rK1 rP1 rV1 ((hF1 31 19 rfl).1.trans hnd) (fun hno e16 => absurd hroom (fun h => h.elim (fun h => by omega) (fun ⟨k, hk, e⟩ => hno k hk e))) (fun _ z2 hF2 rP2 hv2 => ?_)
      refine ex1 ⟨fun _ => ?_, fun h => absurd (show (0 : Int32) ≤ 0 by decide) h⟩
      rw [show (wI z2 31 0 0).1 31 1 = jI (aN A) from rP2.1, jI_tn (by omega)]
      refine ⟨vp_n (by omega) (by decide), ex1 ?_⟩
      rw [show (wI (wI z2 31 0 0) 33 (aN A) 0).1 31 1 = jI (aN A) from rP2.1, jI_tn (by omega)]
      refine ⟨vp_n (by omega) (by decide), ex1 (ex1 ?_)⟩
      rw [show (wI (wI (wI z2 31 0 0) 33 (aN A) 0) 45 (aN A) 0).1 31 1 = jI (aN A) from rP2.1, jI_s]
      have hW' : WF (aN A + 1, fup (aC A) (aN A) C, n, f, g, A.2.2.2.2.2) := by
        refine ⟨by show aN A + 1 ≤ 40; omega, hn, kD1, fun p hp => ?_, hW.2.2.2.2⟩
        show fup (aC A) (aN A) C p < 64 ∧ ∀ t, t < 3 → dg (fup (aC A) (aN A) C p) t < vS A t
        by_cases e : p = aN A
        · subst e
          rw [fup_at]
          refine ⟨hc64, fun t ht => ?_⟩
          match t, ht with
          | 0, _ => rw [d0]; exact ha
          | 1, _ => rw [d1]; exact hb
          | 2, _ => rw [d2]; exact hc
        · rw [fup_ne e]; exact hW.2.2.2.1 p (by have : p < aN A + 1 := hp; omega)
      refine m_changed hW' ⟨rfl, fun p hp t ht => ?_⟩ (fun z' hF hR e1 e2 e3 => ?_)
      · show z2.1 32 (3 * p + t) = jI (dg (fup (aC A) (aN A) C p) t)
        by_cases e : p = aN A
        · subst e; rw [fup_at]; exact hv2 t ht
        · rw [fup_ne e]; exact rP2.2 p (by have : p < aN A + 1 := hp; omega) t ht
      refine law_same (hS hnd (aN A + 1, fup (aC A) (aN A) C, n, f, g, A.2.2.2.2.2) z' hW' ⟨⟨?_, ?_, ?_, ?_, ?_⟩, hR, ⟨(hF 31 1 rfl).1, fun p hp t ht => ?_⟩, ?_, ?_, ?_⟩ rfl ?_ (fun p hp => ?_) ?_ ?_ ⟨?_, ?_, ?_, ?_, e1, e2, e3⟩) (hF 31 0 rfl).1 (fun _ => ?_)
      · exact ⟨(hF 1 5 rfl).1.trans ((hF2 1 5 rfl).1.trans oK1.1), fun k hk => (hF 4 k rfl).1.trans ((hF2 4 k rfl).1.trans (oK1.2.1 k hk)), fun k hk => (hF 5 k rfl).1.trans ((hF2 5 k rfl).1.trans (oK1.2.2 k hk))⟩
      · exact ⟨(hF 1 4 rfl).1.trans ((hF2 1 4 rfl).1.trans oP1.1), fun k hk => (hF 3 k rfl).1.trans ((hF2 3 k rfl).1.trans (oP1.2 k hk))⟩
      · exact fun t ht => (hF 2 t rfl).1.trans ((hF2 2 t rfl).1.trans ((hF1 2 t rfl).1.trans (oV t ht)))
      · exact ⟨fun t ht => (hF 7 t rfl).1.trans ((hF2 7 t rfl).1.trans ((hF1 7 t rfl).1.trans (oQ.1 t ht))), fun t ht => (hF 8 t rfl).1.trans ((hF2 8 t rfl).1.trans ((hF1 8 t rfl).1.trans (oQ.2 t ht)))⟩
      · exact (hF 0 8 rfl).1.trans ((hF2 0 8 rfl).1.trans ((hF1 0 8 rfl).1.trans oS))
      · rw [(hF 32 _ rfl).1]
        show z2.1 32 (3 * p + t) = jI (dg (fup (aC A) (aN A) C p) t)
        by_cases e : p = aN A
        · subst e; rw [fup_at]; exact hv2 t ht
        · rw [fup_ne e]; exact rP2.2 p (by have : p < aN A + 1 := hp; omega) t ht
      · exact fun t ht => (hF 34 t rfl).1.trans ((hF2 34 t rfl).1.trans ((hF1 34 t rfl).1.trans (rV t ht)))
      · exact ⟨fun t ht => (hF 35 t rfl).1.trans ((hF2 35 t rfl).1.trans ((hF1 35 t rfl).1.trans (rQ.1 t ht))), fun t ht => (hF 36 t rfl).1.trans ((hF2 36 t rfl).1.trans ((hF1 36 t rfl).1.trans (rQ.2 t ht)))⟩
      · exact (hF 31 7 rfl).1.trans ((hF2 31 7 rfl).1.trans ((hF1 31 7 rfl).1.trans rS))
      · refine fz_trans (fz_trans (fz_I (fz_I (fz_I (fz_I fz_rfl rfl) rfl) rfl) rfl) (fz_mono hF1 (fun c k e => ?_))) (fz_trans (fz_L fz_rfl rfl) (fz_trans (fz_mono hF2 (fun c k e => ?_)) (fz_trans (fz_I (fz_I (fz_I (fz_I fz_rfl rfl) rfl) rfl) rfl) (fz_mono hF (fun c k e => sc_sx c k ?_)))))
        · simp only [Bool.or_eq_false_iff, Bool.and_eq_false_iff] at e ⊢
          obtain ⟨_, _, h1, h2, h3, h4, h5, _⟩ := e
          exact ⟨h3, h4, h5, Or.inl h1⟩
        · simp only [Bool.or_eq_false_iff, Bool.and_eq_false_iff] at e ⊢
          obtain ⟨_, _, _, _, _, _, _, _, _, h32, _, _, _, _, _, _, _, _, h31⟩ := e
          exact ⟨h32, h31.imp id (fun h => h.1)⟩
        · simp only [Bool.or_eq_false_iff] at e ⊢
          exact e.2.2
      · refine ⟨(hF 33 p rfl).1.trans ((zI_ne (z := wI z2 31 0 0) (c := 33) hp).trans ?_), (hF 45 p rfl).1.trans ((zI_ne (z := wI (wI z2 31 0 0) 33 (aN A) 0) (c := 45) hp).trans ?_)⟩
        · exact (hF2 33 p rfl).1.trans (hF1 33 p rfl).1
        · exact (hF2 45 p rfl).1.trans (hF1 45 p rfl).1
      · exact (hF 33 _ rfl).1.trans (zI_at (z := wI z2 31 0 0) (c := 33))
      · exact (hF 45 _ rfl).1.trans (zI_at (z := wI (wI z2 31 0 0) 33 (aN A) 0) (c := 45))
      · exact (hF 25 0 rfl).1.trans ((hF2 25 0 rfl).1.trans (hF1 25 0 rfl).1)
      · exact (hF 25 1 rfl).1.trans ((hF2 25 1 rfl).1.trans (hF1 25 1 rfl).1)
      · exact (hF 0 10 rfl).1.trans ((hF2 0 10 rfl).1.trans (hF1 0 10 rfl).1)
      · exact (hF 0 11 rfl).1.trans ((hF2 0 11 rfl).1.trans (hF1 0 11 rfl).1)
      · have eo : z'.2 49 0 = (jI (aN A)).toInt64 := (hF 49 0 rfl).2.trans (hF2 49 0 rfl).2
        rw [eo, (hF 31 1 rfl).1]
        show (jI (aN A)).toInt64 = (jI (aN A + 1) - 1).toInt64
        rw [jI_p (by omega)]; rfl
    refine ⟨fun h4 => ⟨fun h => absurd rfl h, fun _ => Or.inr ⟨rfl, full h4⟩⟩, fun h4 => ⟨fun h16 => ⟨fun _ => room ?_ (Or.inl ?_), fun h => absurd h (by decide)⟩, fun h16 => ?_⟩⟩
    · rw [oP.1, show (40 : Int32) = jI 40 from rfl, jI_le (by decide) (by omega)] at h4; omega
    · rw [oK.1, show (16 : Int32) = jI 16 from rfl, jI_lt (by omega) (by decide)] at h16; omega
    · have hlt : aN A < 40 := by rw [oP.1, show (40 : Int32) = jI 40 from rfl, jI_le (by decide) (by omega)] at h4; omega
      have e16 : kN A = 16 := by rw [oK.1, show (16 : Int32) = jI 16 from rfl, jI_lt (by omega) (by decide)] at h16; omega
      refine s_isKind hK16 hW.2.2.1 oK hc64 (fun k hk e => ⟨fun h => absurd h (by decide), fun _ => ⟨fun _ => room hlt (Or.inr ⟨k, hk, e⟩), fun h => absurd h (by decide)⟩⟩) (fun hno => ⟨fun _ => ⟨fun h => absurd rfl h, fun _ => Or.inr ⟨rfl, ?_⟩⟩, fun h => absurd rfl h⟩)
      refine ref hlt z _ rK rP rV hnd (fun _ _ z' hF' hc2 rP' => law_same (hE z' hF' ⟨⟨ok_fr ⟨rfl, fun _ => rfl, fun _ => rfl⟩ hF' oK, op_fr ⟨rfl, fun _ => rfl⟩ hF' oP, ov_fr (fun _ => rfl) hF' oV, oq_fr ⟨fun _ => rfl, fun _ => rfl⟩ hF' oQ, (hF' 0 8 rfl).1.trans oS⟩, rk_fr ⟨rfl, fun _ => rfl, fun _ => rfl⟩ hF' rK, rP', rv_fr (fun _ => rfl) hF' rV, rq_fr ⟨fun _ => rfl, fun _ => rfl⟩ hF' rQ, (hF' 31 7 rfl).1.trans rS⟩) hc2 (fun h => absurd h (by decide))) (fun h => absurd h (fun h => h.elim (fun ⟨k, hk, e⟩ => hno k hk e) (fun h => h e16)))
  · have hdn : ¬ z.1 31 19 = 0 := hd.elim (fun h => absurd h.1 hdr) (fun h => h.2)
    exact Or.inr ⟨rfl, mp_good hW rV ha hb hc ⟨fun _ => ⟨fun _ => ex1 ⟨fun h => absurd h n2_0, fun _ => law_same (hEy 2) rfl (fun h => absurd h (by decide))⟩, fun h => absurd h hdn⟩, fun h => absurd rfl h⟩⟩
