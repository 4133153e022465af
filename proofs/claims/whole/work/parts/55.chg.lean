/-! The pure side: the calls that change the pool. -/
def Pool (A : Ab) (z : St) : Prop := (OK A z ∧ OP A z ∧ OV A z ∧ OQ A z ∧ OS A z) ∧ RK A z ∧ RP A z ∧ RV A z ∧ RQ A z ∧ RS A z
def DR (z : St) : Prop := (z.1 26 5 ≤ 0 ∧ z.1 31 19 = 0) ∨ (¬ z.1 26 5 ≤ 0 ∧ ¬ z.1 31 19 = 0)
def Chg (z : St) : Prop := z.1 25 0 = 0 ∧ z.1 25 1 = 0 ∧ z.1 0 10 = 0 ∧ z.1 0 11 = 0 ∧ z.1 31 11 = 0 ∧ z.1 31 23 = 0 ∧ z.1 31 29 = 0
abbrev Sx : Nat → Nat → Bool := fun c k => c == 1 || (c == 2 || (c == 3 || (c == 4 || (c == 5 || (c == 7 || (c == 8 || (c == 32 || (c == 34 || (c == 35 || (c == 36 || (c == 37 || (c == 38 || (c == 49 || ((c == 0 && (k == 8 || (k == 10 || k == 11))) || ((c == 25 && (k == 0 || k == 1)) || (c == 31 && (k == 0 || (k == 1 || (k == 7 || (k == 8 || (k == 11 || (k == 23 || k == 29))))))))))))))))))))))
theorem sc_sx (c k : Nat) (e : Sx c k = false) : Sc c k = false := by
  simp only [Bool.or_eq_false_iff, Bool.and_eq_false_iff] at e ⊢
  obtain ⟨_, _, _, _, _, _, _, _, _, _, _, h37, h38, _, _, _, h⟩ := e
  exact ⟨h37, h38, h.imp id (fun h => ⟨h.2.2.2.1, h.2.2.2.2.1, h.2.2.2.2.2.1, h.2.2.2.2.2.2⟩)⟩
theorem law_code {z : St} {y : Int32} {K : St → Prop} (h : K z) (hc : z.1 31 0 = y) : ((z.1 31 0 = y) → K z) ∧ ((¬ z.1 31 0 = y) → False) := ⟨fun _ => h, fun hn => hn hc⟩
theorem n1_0 : ¬ (1 : Int32) ≤ 0 := by decide
theorem n2_0 : ¬ (2 : Int32) ≤ 0 := by decide
theorem n3_0 : ¬ (3 : Int32) ≤ 0 := by decide
theorem mtr_bad0 {x1 x2 : Int32} {z : St} {Q : St → Prop} (h : Q (wI z 31 0 1)) : J_M_trait_17 Q x1 x2 z :=
  have e : J_M_trait_66 Q x1 x2 1 z := ⟨fun h => absurd h (by decide), fun _ => ex1 ⟨fun h => absurd h n1_0, fun _ => h⟩⟩
  ⟨1, fun _ => e, fun _ => ⟨fun _ => e, fun h => absurd h (by decide)⟩⟩
theorem mtr_bad {x1 x2 : Int32} {z : St} {Q : St → Prop} (hb : x1 < 0 ∨ 3 ≤ x1 ∨ x2 < 1 ∨ 4 < x2) (h : Q (wI z 31 0 1)) : P_M_trait x1 x2 z Q := by
  have hb' : ¬ x1 < 0 → ¬ 3 ≤ x1 → ¬ x2 < 1 → ¬ x2 ≤ 4 := fun a b c d => (hb.resolve_left a).resolve_left b |>.elim c (fun e => i32_nle.mpr e d)
  refine ⟨fun _ => ⟨fun _ => mtr_bad0 h, fun h1 => absurd rfl h1⟩, fun a => ⟨fun _ => ⟨fun _ => mtr_bad0 h, fun h1 => absurd rfl h1⟩, fun b => ⟨fun h1 => absurd h1 (by decide), fun _ => ⟨fun _ => mtr_bad0 h, fun c => ⟨fun d => absurd d (hb' a b c), fun _ => mtr_bad0 h⟩⟩⟩⟩⟩
theorem mtr_loop {A : Ab} {t m : Nat} {z : St} {Q : St → Prop} {K : Int32 → Int32 → Int32 → St → Prop} (hW : WF A) (hP : RP A z) (ht : t < 3) (hm : m ≤ 4) (h1 : (∃ p, p < aN A ∧ m ≤ dg (aC A p) t) → K (jI t) (jI m) 1 z) (h0 : (∀ p, p < aN A → dg (aC A p) t < m) → K (jI t) (jI m) 0 z) : ∃ k, L_M_trait_26 K Q k (jI t) (jI m) 0 0 z := by
  have h40 := hW.1
  have loop : ∀ (d p : Nat), p + d = aN A → (∀ q, q < p → dg (aC A q) t < m) → L_M_trait_26 K Q (d + 1) (jI t) (jI m) 0 (jI p) z := by
    intro d
    induction d with
    | zero =>
      intro p hp hq
      refine ⟨fun _ => h0 (fun q hq' => hq q (by omega)), fun hn => absurd ?_ hn⟩
      rw [hP.1, jI_le (by omega) (by omega)]; omega
    | succ d ih =>
      intro p hp hq
      have hpp : p < aN A := by omega
      have h4 := dg_lt (aC A p) t
      refine ⟨fun hn => absurd hn ?_, fun _ => ⟨fun h => absurd rfl h, fun _ => ?_⟩⟩
      · rw [hP.1, jI_le (by omega) (by omega)]; omega
      rw [show (3 : Int32) = jI 3 from rfl, jI_mul, jI_add, jI_tn (by omega), hP.2 p hpp t ht, jI_s, jI_lt (by omega) (by omega)]
      refine ⟨vp_n (by omega) (by decide), fun h2 => ex1 (ih (p + 1) (by omega) (fun q hq' => ?_)), fun h2 => ex1 ?_⟩
      · by_cases e : q = p
        · subst e; exact h2
        · exact hq q (by omega)
      · have hK := h1 ⟨p, hpp, by omega⟩
        cases d with
        | zero => exact ⟨fun _ => hK, fun _ => ⟨fun _ => hK, fun h => absurd h (by decide)⟩⟩
        | succ d => exact ⟨fun _ => hK, fun _ => ⟨fun _ => hK, fun h => absurd h (by decide)⟩⟩
  exact ⟨_, loop (aN A) 0 (by omega) (fun q hq => absurd hq (Nat.not_lt_zero _))⟩
theorem pool_err {A : Ab} {z : St} {y : Int32} (h : Pool A z) : Pool A (wI z 31 0 y) := h
theorem b_trait {A : Ab} {x1 x2 x3 x4 v4 : Int32} {z : St} {K : St → Prop} (hW : WF A) (hP : Pool A z) (hd : DR z) (hE : ∀ y, K (wI z 31 0 y)) (hS : z.1 31 19 = 0 → ∀ A' z', WF A' → Pool A' z' → aN A' = aN A → Fz Sx z z' → Chg z' → K z') : B_0 x1 x2 x3 x4 v4 z K := by
  have err : ∀ z1 : St, (∀ y, K (wI z1 31 0 y)) → (x1 < 0 ∨ 3 ≤ x1 ∨ x2 < 1 ∨ 4 < x2) → P_M_trait x1 x2 z1 (fun (z3 : St) => P_M_thrown z3 (fun (y5 : Int32) (z4 : St) => ((y5 = 1) → K z4) ∧ ((¬ y5 = 1) → False))) :=
    fun z1 hE hb => mtr_bad hb (law_code (hE 1) rfl)
  obtain ⟨⟨oK, oP, oV, oQ, oS⟩, rK, rP, rV, rQ, rS⟩ := id hP
  refine ⟨fun a => Or.inl ⟨rfl, err z hE (Or.inl a)⟩, fun a => ⟨fun b => Or.inl ⟨rfl, err z hE (Or.inr (Or.inl b))⟩, fun b => ⟨fun c => Or.inl ⟨rfl, err z hE (Or.inr (Or.inr (Or.inl c)))⟩, fun c => ⟨fun d => Or.inl ⟨rfl, err z hE (Or.inr (Or.inr (Or.inr d)))⟩, fun d => ?_⟩⟩⟩⟩
  obtain ⟨t, ht, rfl⟩ := i32_nn a
  rw [show (3 : Int32) = jI 3 from rfl, jI_le (by decide) ht] at b
  have c0 : ¬ x2 < 0 := fun h => c (Int32.lt_trans h (by decide))
  obtain ⟨m, hm, rfl⟩ := i32_nn c0
  rw [show (1 : Int32) = jI 1 from rfl, jI_lt hm (by decide)] at c
  rw [show (4 : Int32) = jI 4 from rfl, jI_lt (by decide) hm] at d
  have ht3 : t < 3 := by omega
  have mt : ∀ (z1 : St) (Q : St → Prop), (∃ k26, L_M_trait_26 (fun (x12 : Int32) (x13 : Int32) (x14 : Int32) (z15 : St) => J_M_trait_66 Q x12 x13 x14 z15) Q k26 (jI t) (jI m) 0 0 z1) → P_M_trait (jI t) (jI m) z1 Q := by
    intro z1 Q hk
    refine ⟨fun h => absurd h a, fun _ => ⟨fun h => absurd h ?_, fun _ => ⟨fun h => absurd h (by decide), fun _ => ⟨fun h => absurd h ?_, fun _ => ⟨fun _ => hk, fun h => absurd ?_ h⟩⟩⟩⟩⟩
    · rw [show (3 : Int32) = jI 3 from rfl, jI_le (by decide) ht]; omega
    · rw [show (1 : Int32) = jI 1 from rfl, jI_lt hm (by decide)]; omega
    · rw [show (4 : Int32) = jI 4 from rfl, jI_le hm (by decide)]; omega
  refine s_highest hW.2.1 hW.2.2.1 oK ht3 (fun x hx1 hx2 => ⟨fun hlt => ?_, fun hge => ?_⟩)
  · have hall : ∀ p, p < aN A → dg (aC A p) t < m := by
      intro p hp
      obtain ⟨k, hk, ek⟩ := hW.2.2.1.2.2 p hp
      have h1 := hx1 k hk
      rw [ek] at h1
      have h2 := Int32.lt_of_le_of_lt h1 hlt
      rw [jI_lt (by have := dg_lt (aC A p) t; omega) hm] at h2
      exact h2
    have hm' : ∀ (z1 : St) (Q : St → Prop), RP A z1 → J_M_trait_66 Q (jI t) (jI m) 0 z1 → P_M_trait (jI t) (jI m) z1 Q :=
      fun z1 Q hr hj => mt z1 Q (mtr_loop hW hr ht3 (by omega) (fun ⟨p, hp, h⟩ => absurd (hall p hp) (by omega)) (fun _ => hj))
    refine ⟨fun hopn => ⟨fun _ => ?_, fun h => absurd rfl h⟩, fun hdr => ⟨fun h => absurd h (by decide), fun _ => ?_⟩⟩
    · have hnd : z.1 31 19 = 0 := hd.elim (fun h => h.2) (fun h => absurd hopn h.1)
      rw [jI_tn ht]
      refine ⟨vp_n ht3 (by decide), ex1 (ex1 (ex1 (ex1 (ex1 ?_))))⟩
      refine hm' _ _ rP ⟨fun _ => ⟨fun _ => ex1 ⟨fun _ => ?_, fun h => absurd (show (0 : Int32) ≤ 0 by decide) h⟩, fun h => absurd hnd h⟩, fun h => absurd rfl h⟩
      rw [jI_tn ht]
      refine ⟨vp_n ht3 (by decide), ex1 ?_⟩
      have hW' : WF (aN A, aC A, kN A, kC A, kH A, fup (vS A) t m, lO A, hI A, sZ A) := by
        refine ⟨hW.1, hW.2.1, hW.2.2.1, fun p hp => ⟨(hW.2.2.2.1 p hp).1, fun t' ht' => ?_⟩, fun t' ht' => ?_, hW.2.2.2.2.2⟩
        · show dg (aC A p) t' < fup (vS A) t m t'
          by_cases e : t' = t
          · subst e; rw [fup_at]; exact hall p hp
          · rw [fup_ne e]; exact (hW.2.2.2.1 p hp).2 t' ht'
        · show 1 ≤ fup (vS A) t m t' ∧ fup (vS A) t m t' ≤ 4
          by_cases e : t' = t
          · subst e; rw [fup_at]; omega
          · rw [fup_ne e]; exact hW.2.2.2.2.1 t' ht'
      refine m_changed hW' rP (fun z' hF hR e1 e2 e3 => law_code (hS hnd _ z' hW' ⟨⟨?_, ?_, fun t' ht' => ?_, ?_, ?_⟩, hR, ?_, fun t' ht' => ?_, ?_, ?_⟩ rfl ?_ ?_) ?_)
      · exact ⟨(hF 1 5 rfl).1.trans oK.1, fun k hk => (hF 4 k rfl).1.trans (oK.2.1 k hk), fun k hk => (hF 5 k rfl).1.trans (oK.2.2 k hk)⟩
      · exact ⟨(hF 1 4 rfl).1.trans oP.1, fun p hp => (hF 3 p rfl).1.trans (oP.2 p hp)⟩
      · rw [(hF 2 t' rfl).1]
        show (wI z 2 t (jI m)).1 2 t' = jI (fup (vS A) t m t')
        by_cases e : t' = t
        · subst e; rw [fup_at, zI_at]
        · rw [fup_ne e, zI_ne e]; exact oV t' ht'
      · exact ⟨fun q hq => (hF 7 q rfl).1.trans (oQ.1 q hq), fun q hq => (hF 8 q rfl).1.trans (oQ.2 q hq)⟩
      · exact (hF 0 8 rfl).1.trans oS
      · exact ⟨(hF 31 1 rfl).1.trans rP.1, fun p hp t ht => (hF 32 _ rfl).1.trans (rP.2 p hp t ht)⟩
      · rw [(hF 34 t' rfl).1]
        refine Eq.trans (b := (wI z 34 t (jI m)).1 34 t') rfl ?_
        show _ = jI (fup (vS A) t m t')
        by_cases e : t' = t
        · subst e; rw [fup_at, zI_at]
        · rw [fup_ne e, zI_ne e]; exact rV t' ht'
      · exact ⟨fun q hq => (hF 35 q rfl).1.trans (rQ.1 q hq), fun q hq => (hF 36 q rfl).1.trans (rQ.2 q hq)⟩
      · exact (hF 31 7 rfl).1.trans rS
      · exact fz_trans (fz_I (fz_I (fz_I (fz_I (fz_I (fz_I (fz_I fz_rfl rfl) rfl) rfl) rfl) rfl) rfl) rfl) (fz_mono hF sc_sx)
      · exact ⟨(hF 25 0 rfl).1, (hF 25 1 rfl).1, (hF 0 10 rfl).1, (hF 0 11 rfl).1, e1, e2, e3⟩
      · exact (hF 31 0 rfl).1
    · have hdn : ¬ z.1 31 19 = 0 := hd.elim (fun h => absurd h.1 hdr) (fun h => h.2)
      exact Or.inr ⟨rfl, hm' _ _ rP ⟨fun _ => ⟨fun h => absurd h hdn, fun _ => ex1 ⟨fun h => absurd h n2_0, fun _ => law_code (hE 2) rfl⟩⟩, fun h => absurd rfl h⟩⟩
  · refine Or.inl ⟨rfl, mt z _ (mtr_loop hW rP ht3 (by omega) (fun _ => ⟨fun h => absurd h (by decide), fun _ => ex1 ⟨fun h => absurd h n1_0, fun _ => law_code (hE 1) rfl⟩⟩) (fun hall => absurd ?_ hge))⟩
    rcases hx2 with e | ⟨k, hk, e⟩
    · rw [e]; exact Int32.lt_of_lt_of_le (show (-1 : Int32) < 0 by decide) (jI_0le hm)
    · have h1 := (hW.2.2.1.2.1 k hk)
      have h2 : cnt (aC A) (kC A k) (aN A) ≠ 0 := by omega
      obtain ⟨p, hp, ep⟩ := cnt_pos h2
      have h3 := hall p hp
      rw [e, jI_lt (by have := dg_lt (kC A k) t; omega) hm, ← ep]; exact h3
