/-! The pure side: quota, size, person. -/
theorem vp_0 : vp_in (0 : Int32) 1 := by unfold vp_in; decide
/-- how the law compares an answer of the reference with the office's: both threw alike, or both answered alike -/
theorem law_same {z : St} {y y' : Int32} {K : St → Prop} (h : K z) (hc : z.1 31 0 = y) (ho : y = 0 → z.2 49 0 = y'.toInt64) :
    ((z.1 31 0 = y) → ((¬ y = 0) → K z) ∧ ((y = 0) → vp_in (0 : Int32) 1 ∧ (((z.2 49 (0 : Int32).toNatClampNeg) = y'.toInt64) → K z) ∧ ((¬ (z.2 49 (0 : Int32).toNatClampNeg) = y'.toInt64) → False))) ∧ ((¬ z.1 31 0 = y) → False) :=
  ⟨fun _ => ⟨fun _ => h, fun h0 => ⟨vp_0, fun _ => h, fun hn => hn (ho h0)⟩⟩, fun hn => hn hc⟩
theorem law_sameL {z : St} {y : Int32} {y' : Int64} {K : St → Prop} (h : K z) (hc : z.1 31 0 = y) (ho : y = 0 → z.2 49 0 = y') :
    ((z.1 31 0 = y) → ((¬ y = 0) → K z) ∧ ((y = 0) → vp_in (0 : Int32) 1 ∧ (((z.2 49 (0 : Int32).toNatClampNeg) = y') → K z) ∧ ((¬ (z.2 49 (0 : Int32).toNatClampNeg) = y') → False))) ∧ ((¬ z.1 31 0 = y) → False) :=
  ⟨fun _ => ⟨fun _ => h, fun h0 => ⟨vp_0, fun _ => h, fun hn => hn (ho h0)⟩⟩, fun hn => hn hc⟩
theorem ok_fr {S : Nat → Nat → Bool} {A : Ab} {z z' : St} (hS : S 1 5 = false ∧ (∀ k, S 4 k = false) ∧ ∀ k, S 5 k = false) (hF : Fz S z z') (h : OK A z) : OK A z' :=
  ⟨(hF 1 5 hS.1).1.trans h.1, fun k hk => (hF 4 k (hS.2.1 k)).1.trans (h.2.1 k hk), fun k hk => (hF 5 k (hS.2.2 k)).1.trans (h.2.2 k hk)⟩
theorem op_fr {S : Nat → Nat → Bool} {A : Ab} {z z' : St} (hS : S 1 4 = false ∧ (∀ k, S 3 k = false)) (hF : Fz S z z') (h : OP A z) : OP A z' :=
  ⟨(hF 1 4 hS.1).1.trans h.1, fun k hk => (hF 3 k (hS.2 k)).1.trans (h.2 k hk)⟩
theorem ov_fr {S : Nat → Nat → Bool} {A : Ab} {z z' : St} (hS : ∀ k, S 2 k = false) (hF : Fz S z z') (h : OV A z) : OV A z' :=
  fun k hk => (hF 2 k (hS k)).1.trans (h k hk)
theorem oq_fr {S : Nat → Nat → Bool} {A : Ab} {z z' : St} (hS : (∀ k, S 7 k = false) ∧ ∀ k, S 8 k = false) (hF : Fz S z z') (h : OQ A z) : OQ A z' :=
  ⟨fun k hk => (hF 7 k (hS.1 k)).1.trans (h.1 k hk), fun k hk => (hF 8 k (hS.2 k)).1.trans (h.2 k hk)⟩
theorem rk_fr {S : Nat → Nat → Bool} {A : Ab} {z z' : St} (hS : S 31 8 = false ∧ (∀ k, S 37 k = false) ∧ ∀ k, S 38 k = false) (hF : Fz S z z') (h : RK A z) : RK A z' :=
  ⟨(hF 31 8 hS.1).1.trans h.1, fun k hk => (hF 37 k (hS.2.1 k)).1.trans (h.2.1 k hk), fun k hk => (hF 38 k (hS.2.2 k)).1.trans (h.2.2 k hk)⟩
theorem rp_fr {S : Nat → Nat → Bool} {A : Ab} {z z' : St} (hS : S 31 1 = false ∧ (∀ k, S 32 k = false)) (hF : Fz S z z') (h : RP A z) : RP A z' :=
  ⟨(hF 31 1 hS.1).1.trans h.1, fun p hp t ht => (hF 32 _ (hS.2 _)).1.trans (h.2 p hp t ht)⟩
theorem rv_fr {S : Nat → Nat → Bool} {A : Ab} {z z' : St} (hS : ∀ k, S 34 k = false) (hF : Fz S z z') (h : RV A z) : RV A z' :=
  fun k hk => (hF 34 k (hS k)).1.trans (h k hk)
theorem rq_fr {S : Nat → Nat → Bool} {A : Ab} {z z' : St} (hS : (∀ k, S 35 k = false) ∧ ∀ k, S 36 k = false) (hF : Fz S z z') (h : RQ A z) : RQ A z' :=
  ⟨fun k hk => (hF 35 k (hS.1 k)).1.trans (h.1 k hk), fun k hk => (hF 36 k (hS.2 k)).1.trans (h.2 k hk)⟩
theorem s_hv {A : Ab} {t : Nat} {x : Int32} {z : St} {Q : Int32 → St → Prop} (ht : t < 3) (hW : WF A) (oV : OV A z) (h1 : ∀ v, v < vS A t → x = jI v → Q 1 z) (h0 : (x < 0 ∨ jI (vS A t) ≤ x) → Q 0 z) : P_P_hasValue (jI t) x z Q := by
  have h4 := (hW.2.2.2.2.1 t ht).2
  refine ⟨fun h => absurd h (jI_nn (by omega)), fun _ => ⟨fun h => absurd h ?_, fun _ => ⟨fun h => h0 (Or.inl h), fun a => ⟨?_, fun h => h0 (Or.inr ?_), fun h => ?_⟩⟩⟩⟩
  · rw [show (3 : Int32) = jI 3 from rfl, jI_le (by decide) (by omega)]; omega
  · exact vp_n ht (by decide)
  · rw [jI_tn (by omega), oV t ht] at h; exact h
  · rw [jI_tn (by omega), oV t ht] at h
    obtain ⟨v, hv, rfl⟩ := i32_nn a
    rw [jI_le (by omega) hv] at h
    exact h1 v (by omega) rfl
theorem jq1 {x1 x2 x3 x4 : Int32} {z : St} {Q : St → Prop} (h : Q (wI z 31 0 1)) : J_M_quota_54 Q x1 x2 x3 x4 1 z :=
  ⟨fun h => absurd h (by decide), fun _ => ex1 ⟨fun h => absurd h n1_0, fun _ => h⟩⟩
theorem b_quota {A : Ab} {x1 x2 x3 x4 v4 : Int32} {z : St} {K : St → Prop} (hW : WF A) (hP : Pool A z) (hd : DR z) (hE : ∀ y, K (wI z 31 0 y)) (hS : z.1 31 19 = 0 → ∀ A' z', WF A' → Pool A' z' → aN A' = aN A → Fz Sx z z' → Chg z' → K z') : B_2 x1 x2 x3 x4 v4 z K := by
  obtain ⟨⟨oK, oP, oV, oQ, oS⟩, rK, rP, rV, rQ, rS⟩ := id hP
  have e1 : ∀ {a b c d : Int32}, J_M_quota_54 (fun (z3 : St) => P_M_thrown z3 (fun (y5 : Int32) (z4 : St) => ((y5 = 1) → K z4) ∧ ((¬ y5 = 1) → False))) a b c d 1 z := jq1 (law_code (hE 1) rfl)
  have nt : (x1 < 0 ∨ 3 ≤ x1) → P_M_quota x1 x2 x3 x4 z (fun (z3 : St) => P_M_thrown z3 (fun (y5 : Int32) (z4 : St) => ((y5 = 1) → K z4) ∧ ((¬ y5 = 1) → False))) := by
    intro hb
    exact ⟨fun _ => ⟨fun _ => e1, fun h => absurd rfl h⟩, fun a => ⟨fun _ => ⟨fun _ => e1, fun h => absurd rfl h⟩, fun b => (hb.elim a b).elim⟩⟩
  refine ⟨fun a => ⟨fun _ => Or.inl ⟨rfl, nt (Or.inl a)⟩, fun h => absurd rfl h⟩, fun a => ⟨fun b => ⟨fun _ => Or.inl ⟨rfl, nt (Or.inr b)⟩, fun h => absurd rfl h⟩, fun b => ?_⟩⟩
  obtain ⟨t, ht, rfl⟩ := i32_nn a
  rw [show (3 : Int32) = jI 3 from rfl, jI_le (by decide) ht] at b
  have ht3 : t < 3 := by omega
  have h4 := (hW.2.2.2.2.1 t ht3).2
  have nb : ¬ (3 : Int32) ≤ jI t := by rw [show (3 : Int32) = jI 3 from rfl, jI_le (by decide) ht]; exact b
  have tr : ∀ {Q : Int32 → St → Prop} {z : St}, Q 1 z → P_M_isTrait (jI t) z Q := fun h => ⟨fun h => absurd h a, fun _ => ⟨fun h => absurd h nb, fun _ => h⟩⟩
  refine ⟨fun c => ⟨fun _ => Or.inl ⟨rfl, tr ⟨fun h => absurd h (by decide), fun _ => ⟨fun _ => e1, fun h => absurd c h⟩⟩⟩, fun h => absurd rfl h⟩, fun c => ⟨vp_n ht3 (by decide), ?_⟩⟩
  obtain ⟨v, hv, rfl⟩ := i32_nn c
  have toJ : ∀ {Q : St → Prop} {z : St}, J_M_quota_28 Q (jI t) (jI v) x3 x4 (jI t) (jI v) z → P_M_quota (jI t) (jI v) x3 x4 z Q := by
    intro Q z h
    exact tr ⟨fun h => absurd h (by decide), fun _ => ⟨fun h => absurd h c, fun _ => tr ⟨fun h => absurd h (by decide), fun _ => h⟩⟩⟩
  rw [jI_tn ht, oV t ht3]
  refine ⟨fun d => ⟨fun _ => Or.inl ⟨rfl, toJ ⟨vp_n ht3 (by decide), fun _ => e1, fun h => absurd ?_ h⟩⟩, fun h => absurd rfl h⟩, fun d => ⟨fun h => absurd h (by decide), fun _ => ?_⟩⟩
  · rw [jI_tn ht, rV t ht3]; exact d
  have d' : ¬ z.1 34 (jI t).toNatClampNeg ≤ jI v := by rw [jI_tn ht, rV t ht3]; exact d
  have d2 : ¬ vS A t ≤ v := by rw [jI_le (by omega) hv] at d; exact d
  have toK : ∀ {Q : St → Prop} {z : St}, RV A z → ((x3 < 0) → J_M_quota_54 Q (jI t) (jI v) x3 x4 (1 : Int32) z) ∧ ((¬ x3 < 0) → ((x4 < x3) → J_M_quota_54 Q (jI t) (jI v) x3 x4 (1 : Int32) z) ∧ ((¬ x4 < x3) → ((x4 ≤ (8 : Int32)) → J_M_quota_54 Q (jI t) (jI v) x3 x4 (0 : Int32) z) ∧ ((¬ x4 ≤ (8 : Int32)) → J_M_quota_54 Q (jI t) (jI v) x3 x4 (1 : Int32) z))) → P_M_quota (jI t) (jI v) x3 x4 z Q := by
    intro Q z rV h
    refine toJ ⟨vp_n ht3 (by decide), fun h => absurd h ?_, fun _ => h⟩
    rw [jI_tn ht, rV t ht3]; exact d
  refine ⟨fun f => Or.inl ⟨rfl, toK rV ⟨fun _ => e1, fun h => absurd f h⟩⟩, fun f => ⟨fun g => Or.inl ⟨rfl, toK rV ⟨fun h => absurd h f, fun _ => ⟨fun _ => e1, fun h => absurd g h⟩⟩⟩, fun g => ⟨fun i => ?_, fun i => Or.inl ⟨rfl, toK rV ⟨fun h => absurd h f, fun _ => ⟨fun h => absurd h g, fun _ => ⟨fun h => absurd h i, fun _ => e1⟩⟩⟩⟩⟩⟩⟩
  have toL : ∀ {Q : St → Prop} {z : St}, RV A z → J_M_quota_54 Q (jI t) (jI v) x3 x4 (0 : Int32) z → P_M_quota (jI t) (jI v) x3 x4 z Q := fun rV h => toK rV ⟨fun h => absurd h f, fun _ => ⟨fun h => absurd h g, fun _ => ⟨fun _ => h, fun h => absurd i h⟩⟩⟩
  obtain ⟨l, hl, rfl⟩ := i32_nn f
  have g0 : ¬ x4 < 0 := fun h => g (Int32.lt_of_lt_of_le h (jI_0le hl))
  obtain ⟨u, hu, rfl⟩ := i32_nn g0
  have g1 : ¬ u < l := by rw [jI_lt hu hl] at g; exact g
  have i1 : u ≤ 8 := by rw [show (8 : Int32) = jI 8 from rfl, jI_le hu (by decide)] at i; exact i
  refine ⟨fun hopn => ⟨fun _ => ?_, fun h => absurd rfl h⟩, fun hdr => ⟨fun h => absurd h (by decide), fun _ => ?_⟩⟩
  · have hnd : z.1 31 19 = 0 := hd.elim (fun h => h.2) (fun h => absurd hopn h.1)
    show P_Q_set (jI t * 4 + jI v) (jI l) (jI u) z _
    rw [show (4 : Int32) = jI 4 from rfl, jI_mul, jI_add]
    have hq : t * 4 + v < 12 := by omega
    unfold P_Q_set
    rw [jI_tn (by omega)]
    refine ⟨vp_n hq (by decide), ex1 ⟨vp_n hq (by decide), ex1 (ex1 (ex1 (ex1 (ex1 ?_))))⟩⟩
    refine toL rV ⟨fun _ => ⟨fun _ => ex1 ⟨fun _ => ?_, fun h => absurd (show (0 : Int32) ≤ 0 by decide) h⟩, fun h => absurd hnd h⟩, fun h => absurd rfl h⟩
    rw [show (4 : Int32) = jI 4 from rfl, jI_mul, jI_add, show 4 * t + v = t * 4 + v by omega, jI_tn (by omega)]
    refine ⟨vp_n hq (by decide), ex1 ⟨vp_n hq (by decide), ex1 ?_⟩⟩
    have hW' : WF (aN A, aC A, kN A, kC A, kH A, vS A, fup (lO A) (t * 4 + v) l, fup (hI A) (t * 4 + v) u, sZ A) := by
      refine ⟨hW.1, hW.2.1, hW.2.2.1, hW.2.2.2.1, hW.2.2.2.2.1, fun q hq' => ?_, hW.2.2.2.2.2.2⟩
      show fup (lO A) (t * 4 + v) l q ≤ fup (hI A) (t * 4 + v) u q ∧ fup (hI A) (t * 4 + v) u q ≤ 8
      by_cases e : q = t * 4 + v
      · subst e; rw [fup_at, fup_at]; omega
      · rw [fup_ne e, fup_ne e]; exact hW.2.2.2.2.2.1 q hq'
    refine m_changed hW' rP (fun z' hF hR e1 e2 e3 => law_code (hS hnd _ z' hW' ⟨⟨ok_fr ⟨rfl, fun _ => rfl, fun _ => rfl⟩ hF oK, op_fr ⟨rfl, fun _ => rfl⟩ hF oP, ov_fr (fun _ => rfl) hF oV, ⟨fun q hq' => ?_, fun q hq' => ?_⟩, (hF 0 8 rfl).1.trans oS⟩, hR, rp_fr ⟨rfl, fun _ => rfl⟩ hF rP, rv_fr (fun _ => rfl) hF rV, ⟨fun q hq' => ?_, fun q hq' => ?_⟩, (hF 31 7 rfl).1.trans rS⟩ rfl ?_ ⟨(hF 25 0 rfl).1, (hF 25 1 rfl).1, (hF 0 10 rfl).1, (hF 0 11 rfl).1, e1, e2, e3⟩) (hF 31 0 rfl).1)
    · rw [(hF 7 q rfl).1]
      show (wI z 7 (t * 4 + v) (jI l)).1 7 q = jI (fup (lO A) (t * 4 + v) l q)
      by_cases e : q = t * 4 + v
      · subst e; rw [fup_at, zI_at]
      · rw [fup_ne e, zI_ne e]; exact oQ.1 q hq'
    · rw [(hF 8 q rfl).1]
      show (wI z 8 (t * 4 + v) (jI u)).1 8 q = jI (fup (hI A) (t * 4 + v) u q)
      by_cases e : q = t * 4 + v
      · subst e; rw [fup_at, zI_at]
      · rw [fup_ne e, zI_ne e]; exact oQ.2 q hq'
    · rw [(hF 35 q rfl).1]
      show (wI z 35 (t * 4 + v) (jI l)).1 35 q = jI (fup (lO A) (t * 4 + v) l q)
      by_cases e : q = t * 4 + v
      · subst e; rw [fup_at, zI_at]
      · rw [fup_ne e, zI_ne e]; exact rQ.1 q hq'
    · rw [(hF 36 q rfl).1]
      show (wI z 36 (t * 4 + v) (jI u)).1 36 q = jI (fup (hI A) (t * 4 + v) u q)
      by_cases e : q = t * 4 + v
      · subst e; rw [fup_at, zI_at]
      · rw [fup_ne e, zI_ne e]; exact rQ.2 q hq'
    · exact fz_trans (fz_I (fz_I (fz_I (fz_I (fz_I (fz_I (fz_I (fz_I (fz_I fz_rfl rfl) rfl) rfl) rfl) rfl) rfl) rfl) rfl) rfl) (fz_mono hF sc_sx)
  · have hdn : ¬ z.1 31 19 = 0 := hd.elim (fun h => absurd h.1 hdr) (fun h => h.2)
    exact Or.inr ⟨rfl, toL rV ⟨fun _ => ⟨fun h => absurd h hdn, fun _ => ex1 ⟨fun h => absurd h n2_0, fun _ => law_code (hE 2) rfl⟩⟩, fun h => absurd rfl h⟩⟩
theorem b_size {A : Ab} {x1 x2 x3 x4 v4 : Int32} {z : St} {K : St → Prop} (hW : WF A) (hP : Pool A z) (hd : DR z) (hE : ∀ y, K (wI z 31 0 y)) (hS : z.1 31 19 = 0 → ∀ A' z', WF A' → Pool A' z' → aN A' = aN A → Fz Sx z z' → Chg z' → K z') : B_3 x1 x2 x3 x4 v4 z K := by
  obtain ⟨⟨oK, oP, oV, oQ, oS⟩, rK, rP, rV, rQ, rS⟩ := id hP
  have e1 : J_M_size_28 (fun (z3 : St) => P_M_thrown z3 (fun (y5 : Int32) (z4 : St) => ((y5 = 1) → K z4) ∧ ((¬ y5 = 1) → False))) x1 1 z := ex1 ⟨fun h => absurd h n1_0, fun _ => law_code (hE 1) rfl⟩
  refine ⟨fun a => Or.inl ⟨rfl, fun _ => e1, fun h => absurd a h⟩, fun a => ⟨fun b => ?_, fun b => Or.inl ⟨rfl, fun h => absurd h a, fun _ => ⟨fun h => absurd h b, fun _ => e1⟩⟩⟩⟩
  refine ⟨fun hopn => ⟨fun _ => ?_, fun h => absurd rfl h⟩, fun hdr => ⟨fun h => absurd h (by decide), fun _ => ?_⟩⟩
  · have hnd : z.1 31 19 = 0 := hd.elim (fun h => h.2) (fun h => absurd hopn h.1)
    have a0 : ¬ x1 < 0 := fun h => a (Int32.lt_trans h (by decide))
    obtain ⟨n, hn, rfl⟩ := i32_nn a0
    have a1 : 1 ≤ n := by rw [show (1 : Int32) = jI 1 from rfl, jI_lt hn (by decide)] at a; omega
    have b1 : n ≤ 8 := by rw [show (8 : Int32) = jI 8 from rfl, jI_le hn (by decide)] at b; exact b
    refine ex1 (ex1 (ex1 (ex1 (ex1 ?_))))
    refine ⟨fun h => absurd h a, fun _ => ⟨fun _ => ⟨fun _ => ex1 ⟨fun _ => ex1 ?_, fun h => absurd (show (0 : Int32) ≤ 0 by decide) h⟩, fun h => absurd hnd h⟩, fun h => absurd b h⟩⟩
    have hW' : WF (aN A, aC A, kN A, kC A, kH A, vS A, lO A, hI A, n) := ⟨hW.1, hW.2.1, hW.2.2.1, hW.2.2.2.1, hW.2.2.2.2.1, hW.2.2.2.2.2.1, a1, b1⟩
    exact m_changed hW' rP (fun z' hF hR e1 e2 e3 => law_code (hS hnd _ z' hW' ⟨⟨ok_fr ⟨rfl, fun _ => rfl, fun _ => rfl⟩ hF oK, op_fr ⟨rfl, fun _ => rfl⟩ hF oP, ov_fr (fun _ => rfl) hF oV, oq_fr ⟨fun _ => rfl, fun _ => rfl⟩ hF oQ, (hF 0 8 rfl).1⟩, hR, rp_fr ⟨rfl, fun _ => rfl⟩ hF rP, rv_fr (fun _ => rfl) hF rV, rq_fr ⟨fun _ => rfl, fun _ => rfl⟩ hF rQ, (hF 31 7 rfl).1⟩ rfl (fz_trans (fz_I (fz_I (fz_I (fz_I (fz_I (fz_I (fz_I fz_rfl rfl) rfl) rfl) rfl) rfl) rfl) rfl) (fz_mono hF sc_sx)) ⟨(hF 25 0 rfl).1, (hF 25 1 rfl).1, (hF 0 10 rfl).1, (hF 0 11 rfl).1, e1, e2, e3⟩) (hF 31 0 rfl).1)
  · have hdn : ¬ z.1 31 19 = 0 := hd.elim (fun h => absurd h.1 hdr) (fun h => h.2)
    exact Or.inr ⟨rfl, fun h => absurd h a, fun _ => ⟨fun _ => ⟨fun h => absurd h hdn, fun _ => ex1 ⟨fun h => absurd h n2_0, fun _ => law_code (hE 2) rfl⟩⟩, fun h => absurd b h⟩⟩
