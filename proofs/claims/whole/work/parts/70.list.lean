/-! The pure side: the reference lists the states. -/
abbrev Sr : Nat → Nat → Bool := fun c k => c == 40 || (c == 42 || (c == 43 || (c == 31 && (k == 12 || k == 13))))
def RM (A : Ab) (z : St) : Prop := RK A z ∧ RV A z ∧ RQ A z ∧ RS A z
theorem rm_fr {S : Nat → Nat → Bool} {A : Ab} {z z' : St} (hS : S 31 8 = false ∧ S 31 7 = false ∧ (∀ k, S 37 k = false) ∧ (∀ k, S 38 k = false) ∧ (∀ k, S 34 k = false) ∧ (∀ k, S 35 k = false) ∧ ∀ k, S 36 k = false) (hF : Fz S z z') (h : RM A z) : RM A z' :=
  ⟨rk_fr ⟨hS.1, hS.2.2.1, hS.2.2.2.1⟩ hF h.1, rv_fr hS.2.2.2.2.1 hF h.2.1, rq_fr ⟨hS.2.2.2.2.2.1, hS.2.2.2.2.2.2⟩ hF h.2.2.1, (hF 31 7 hS.2.1).1.trans h.2.2.2⟩
theorem al_tk {A : Ab} {k r j : Nat} (hW : WF A) (hk : k < kN A) (hf : Fit (kC A k) r j) (h : alB A (lo12 (nxt (kC A k) r j)) = true) (hv : VR A k r) (hj : j ≤ kH A k) : j ≤ tk A k r := by
  unfold alB at h
  rw [gB_iff, decide_eq_true_iff, al_lo12, al_nxt hf, ← hv.2.1] at h
  have b0 := q0_lt (kC A k)
  have b1 := q1_lt (kC A k)
  have b2 := q2_lt (kC A k)
  have g : ∀ q, q < 12 → (q = q0 (kC A k) ∨ q = q1 (kC A k) ∨ q = q2 (kC A k)) → hd (nxt (kC A k) r j) q ≤ hI A q := by
    intro q hq hc
    have e := qd (kC A k) q hq hc
    have h2 := h.2 q hq (by rw [e.1]; exact (kc_vs hW hk).2 _ e.2)
    rw [decide_eq_true_iff, hd_lo12 hq] at h2
    exact h2
  have g0 := g (q0 (kC A k)) (by omega) (Or.inl rfl)
  have g1 := g (q1 (kC A k)) (by omega) (Or.inr (Or.inl rfl))
  have g2 := g (q2 (kC A k)) (by omega) (Or.inr (Or.inr rfl))
  rw [hd_nxt hf (by omega), if_neg (by omega), if_pos rfl, if_neg (by omega), if_neg (by omega)] at g0
  rw [hd_nxt hf (by omega), if_neg (by omega), if_neg (by omega), if_pos rfl, if_neg (by omega)] at g1
  rw [hd_nxt hf (by omega), if_neg (by omega), if_neg (by omega), if_neg (by omega), if_pos rfl] at g2
  exact tk_le.mpr ⟨hj, by omega, by omega, by omega, by omega⟩
theorem tk8 {A : Ab} {k r : Nat} (hW : WF A) : tk A k r ≤ 8 := by
  have := (tk_le.mp (Nat.le_refl (tk A k r))).2.1
  have := hW.2.2.2.2.2.2.2
  omega
theorem m_sp9 {A : Ab} {k s b r : Nat} {zs : St} {Q : St → Prop} {F : Li} (hW : WF A) (hk : k < kN A) (hsb : s < b) (hb : b = sT A (k + 1)) (hr : VR A k r) (rM : RM A zs) (h39 : zs.1 39 (k + 1) = jI b) (h39' : zs.1 39 (k + 2) = jI 1010)
    (good : ∀ z', Fz Sr zs z' → RR F z' → Q z') (bad : ∀ z', Fz Sr zs z' → z'.1 31 12 = 1 → 1001 < F.1 → Q z') :
    ∀ (n j : Nat) (G : Li) (z : St), j + n = tk A k r + 1 → F = spr (kC A k) r n j G → G.2 s = r → LPr A k (sT A k) b G → 1 ≤ b → Fz Sr zs z → RR G z → L_M_spread_9 Q (n + 1) (jI k) (jI s) (jL (ad (kC A k))) (jI j) z := by
  intro n
  have h16 := hW.2.1
  have hKk := hW.2.2.1.2.1 k hk
  have hle := kH_le hW.2.2.1 hk
  have h40 := hW.1
  have h8 := tk8 (k := k) (r := r) hW
  have h12 : (16 : Nat) ^ 12 = 281474976710656 := rfl
  have row : ∀ j, j ≤ tk A k r + 1 → jL (lo12 r) + (jI j).toInt64 * jL (ad (kC A k)) = jL (lo12 (nxt (kC A k) r j)) := by
    intro j hj
    rw [jI_toL (by omega), jL_mul, jL_add, lo12_nxt (vr_fit1 hW hr hj)]
  induction n with
  | zero =>
    intro j G z hj hF hG hL hb1 hz hR
    have rMz := rm_fr ⟨rfl, rfl, fun _ => rfl, fun _ => rfl, fun _ => rfl, fun _ => rfl, fun _ => rfl⟩ hz rM
    obtain ⟨r13, r12, r1, r3, r40, r43⟩ := id hR
    have hq := good z hz (by rw [hF]; exact hR)
    have hbG := hL.2.1
    refine ⟨vp_n (by omega) (by decide), fun _ => hq, fun hge => ⟨fun _ => hq, fun _ => ⟨fun h => absurd r12 h, fun _ => ⟨vp_n (by omega) (by decide), ex1 ?_⟩⟩⟩⟩
    rw [jI_tn (by omega), rMz.1.2.2 k hk, jI_lt (by omega) (by omega)] at hge
    have hl := lo12_lt (nxt (kC A k) r j)
    rw [h12] at hl
    rw [jI_tn (by omega), r40 s (by omega), hG, row j (by omega)]
    refine m_isAllowed hW (by omega) rMz.2.1 rMz.2.2.1 rMz.2.2.2 ⟨fun h1 => ?_, fun _ => hq⟩
    exfalso
    cases hb' : alB A (lo12 (nxt (kC A k) r j)) with
    | false => rw [hb'] at h1; exact h1 rfl
    | true =>
      have := al_tk hW hk (vr_fit1 hW hr (by omega)) hb' hr (by omega)
      omega
  | succ n ih =>
    intro j G z hj hF hG hL hb1 hz hR
    have rMz := rm_fr ⟨rfl, rfl, fun _ => rfl, fun _ => rfl, fun _ => rfl, fun _ => rfl, fun _ => rfl⟩ hz rM
    obtain ⟨r13, r12, r1, r3, r40, r43⟩ := id hR
    have hbG := hL.2.1
    have tl := tk_le.mp (show j ≤ tk A k r by omega)
    have vnow := vr_nxt hW hk hr (j := j) (by omega)
    have hl := lo12_lt (nxt (kC A k) r j)
    rw [h12] at hl
    refine ⟨vp_n (by omega) (by decide), fun h => absurd h ?_, fun _ => ⟨fun h => absurd h ?_, fun _ => ⟨fun h => absurd r12 h, fun _ => ⟨vp_n (by omega) (by decide), ex1 ?_⟩⟩⟩⟩
    · rw [jI_tn (by omega), rMz.1.2.2 k hk, jI_lt (by omega) (by omega)]; omega
    · rw [show (8 : Int32) = jI 8 from rfl, jI_lt (by omega) (by omega)]; omega
    rw [jI_tn (by omega), r40 s (by omega), hG, row j (by omega)]
    refine m_isAllowed hW (by omega) rMz.2.1 rMz.2.2.1 rMz.2.2.2 ⟨fun _ => ?_, fun h0 => ?_⟩
    · rw [show (1 : Int32) = jI 1 from rfl, jI_add]
      refine m_find (G := G) (k := k + 1) (a := b) (b := 1010) (x := nxt (kC A k) r j) hR (by omega) ((hz 39 _ rfl).1.trans h39) hb1 ((hz 39 _ rfl).1.trans h39') (by omega) (fun i hi h1 h2 => (hL.2.2.2.2.2 i h1 hi).1) vnow.1 (fun i hi h1 h2 e => ?_) (fun hno => ?_)
      · refine ⟨fun h => absurd h (jI_nn (by omega)), fun _ => ex1 ?_⟩
        rw [jI_add]
        have e2 := vr_eq (hL.2.2.2.2.2 i h1 hi) vnow e
        refine ih (j + 1) G z (by omega) ?_ hG hL hb1 hz hR
        rw [hF]
        show spr _ _ n (j + 1) (ins G (nxt (kC A k) r j)) = _
        rw [ins_old hi e2]
      · have hnew : ∀ i, i < G.1 → G.2 i ≠ nxt (kC A k) r j := by
          intro i hi e
          by_cases c : b ≤ i
          · exact hno i hi c (by omega) (by rw [e])
          · have hd1 := vnow.1
            rw [← e] at hd1
            by_cases c2 : sT A k ≤ i
            · have := (hL.2.2.2.2.1 i c2 (by omega)).1; omega
            · obtain ⟨m, hm, hv⟩ := hL.2.2.2.1 i (by omega)
              have := hv.1; omega
        refine ⟨fun _ => ⟨fun hne => ?_, fun he => ex1 ?_⟩, fun h => absurd (by decide) h⟩
        · rw [r13, show (1001 : Int32) = jI 1001 from rfl, jI_eq (by omega) (by decide)] at hne
          rw [r13, jI_tn (n := G.1) (by omega)]
          refine ⟨vp_n (by omega) (by decide), ex1 ?_⟩
          rw [jI_toL (by omega), show (977 : Int64) = jL 977 from rfl, jL_mul, jL_add]
          refine m_place (by omega) ?_
          have ep : hP (lo12 (nxt (kC A k) r j) + 977 * (k + 1)) = pl (nxt (kC A k) r j) := by unfold pl; rw [vnow.1]
          have hpl := hP_lt (lo12 (nxt (kC A k) r j) + 977 * (k + 1))
          rw [ep] at hpl ⊢
          rw [jI_tn (n := pl (nxt (kC A k) r j)) (by omega)]
          rw [show (wL z 40 G.1 (jL (lo12 (nxt (kC A k) r j)))).1 31 13 = jI G.1 from r13, jI_tn (n := G.1) (by omega)]
          refine ⟨vp_n hpl (by decide), vp_n (by omega) (by decide), ex1 (ex1 ?_)⟩
          rw [show (wI (wL z 40 G.1 (jL (lo12 (nxt (kC A k) r j)))) 42 G.1 ((wL z 40 G.1 (jL (lo12 (nxt (kC A k) r j)))).1 43 (pl (nxt (kC A k) r j)))).1 31 13 = jI G.1 from r13, jI_add]
          refine ⟨vp_n hpl (by decide), ex1 (ex1 ?_)⟩
          rw [jI_add]
          have en := ins_new hnew
          have hG' : (ins G (nxt (kC A k) r j)).2 s = r := by rw [pf_ins.2 s (by omega)]; exact hG
          refine ih (j + 1) (ins G (nxt (kC A k) r j)) _ (by omega) hF hG' (lp_ins hL vnow) hb1 (fz_I (fz_I (fz_I (fz_L hz rfl) rfl) rfl) rfl) ?_
          rw [en]
          refine rr_new hR (by omega) rfl r12 (fun i hi => zL_ne (z := z) (c := 40) hi) (zL_at (z := z) (c := 40)) (fun i hi => zI_ne (z := wL z 40 G.1 (jL (lo12 (nxt (kC A k) r j)))) (c := 42) hi) (zI_at (z := wL z 40 G.1 (jL (lo12 (nxt (kC A k) r j)))) (c := 42)) (fun p hp => ?_) ?_
          · exact zI_ne (z := wI (wI (wL z 40 G.1 (jL (lo12 (nxt (kC A k) r j)))) 42 G.1 (z.1 43 (pl (nxt (kC A k) r j)))) 31 13 (jI (G.1 + 1))) (c := 43) hp
          · exact zI_at (z := wI (wI (wL z 40 G.1 (jL (lo12 (nxt (kC A k) r j)))) 42 G.1 (z.1 43 (pl (nxt (kC A k) r j)))) 31 13 (jI (G.1 + 1))) (c := 43)
        · rw [r13, show (1001 : Int32) = jI 1001 from rfl, jI_eq (by omega) (by decide)] at he
          refine bad _ (fz_I hz rfl) rfl ?_
          rw [hF]
          refine Nat.lt_of_lt_of_le ?_ (pf_spr (c := kC A k) (r := r) (n := n) (j := j + 1) (G := ins G (nxt (kC A k) r j))).1
          rw [ins_new hnew]
          show 1001 < G.1 + 1
          omega
    · rw [vr_al vnow] at h0; exact absurd h0 (by decide)
theorem m_l88 {A : Ab} {k b : Nat} {zs : St} {K : Int32 → St → Prop} {Q : St → Prop} {F : Li} (hW : WF A) (hk : k < kN A) (hb : b = sT A (k + 1)) (hb1 : 1 ≤ b) (rM : RM A zs) (h39 : zs.1 39 (k + 1) = jI b) (h39' : zs.1 39 (k + 2) = jI 1010)
    (good : ∀ z', Fz Sr zs z' → RR F z' → K (jI k) z') (bad : ∀ z', Fz Sr zs z' → z'.1 31 12 = 1 → 1001 < F.1 → K (jI k) z') :
    ∀ (n s : Nat) (G : Li) (z : St), s + n = b → sT A k ≤ s → F = lyr A k n s G → LPr A k (sT A k) b G → Fz Sr zs z → RR G z → L_M_list_88 K Q (n + 1) (jI k) (jI s) z := by
  intro n
  have h16 := hW.2.1
  induction n with
  | zero =>
    intro s G z hs h1 hF hL hz hR
    have e39 : z.1 39 (k + 1) = jI b := (hz 39 _ rfl).1.trans h39
    have hbG := hL.2.1
    have hG1 := hR.2.2.2.1
    unfold L_M_list_88
    rw [show (1 : Int32) = jI 1 from rfl, jI_add, jI_tn (by omega), e39, jI_le (by omega) (by omega)]
    exact ⟨vp_n (by omega) (by decide), fun _ => good z hz (by rw [hF]; exact hR), fun hn => absurd (by omega) hn⟩
  | succ n ih =>
    intro s G z hs h1 hF hL hz hR
    have e39 : z.1 39 (k + 1) = jI b := (hz 39 _ rfl).1.trans h39
    have e39' : z.1 39 (k + 2) = jI 1010 := (hz 39 _ rfl).1.trans h39'
    have hbG := hL.2.1
    have hG1 := hR.2.2.2.1
    have rMz := rm_fr ⟨rfl, rfl, fun _ => rfl, fun _ => rfl, fun _ => rfl, fun _ => rfl, fun _ => rfl⟩ hz rM
    have hr := hL.2.2.2.2.1 s h1 (by omega)
    unfold L_M_list_88
    rw [show (1 : Int32) = jI 1 from rfl, jI_add, jI_tn (by omega), e39, jI_le (by omega) (by omega)]
    refine ⟨vp_n (by omega) (by decide), fun hn => absurd hn (by omega), fun _ => ⟨fun h => absurd hR.2.1 h, fun _ => m_adds hW hk rMz.1 ⟨_, m_sp9 (zs := z) (F := spr (kC A k) (G.2 s) (tk A k (G.2 s) + 1) 0 G) hW hk (by omega) hb hr rMz e39 e39' (fun z' hz' hR' => ex1 ?_) (fun z' hz' h1' h2 => ex1 ?_) (tk A k (G.2 s) + 1) 0 G z (by omega) rfl rfl hL hb1 fz_rfl hR⟩⟩⟩
    · rw [jI_add]
      exact ih (s + 1) _ z' (by omega) (by omega) hF (lp_spr (s := s) hW hk hr hL (by omega)) (fz_trans hz hz') hR'
    · have hF1 : 1001 < F.1 := by
        rw [hF]
        exact Nat.lt_of_lt_of_le h2 (pf_lyr (A := A) (k := k) (n := n) (s := s + 1) (G := spr (kC A k) (G.2 s) (tk A k (G.2 s) + 1) 0 G)).1
      have hb' := bad z' (fz_trans hz hz') h1' hF1
      unfold L_M_list_88
      rw [show (1 : Int32) = jI 1 from rfl, jI_add, jI_tn (by omega)]
      exact ⟨vp_n (by omega) (by decide), fun _ => hb', fun _ => ⟨fun _ => hb', fun h => absurd (h.symm.trans h1') (by decide)⟩⟩
abbrev Sl : Nat → Nat → Bool := fun c k => c == 39 || Sr c k
theorem sr_sl (c k : Nat) (e : Sl c k = false) : Sr c k = false := by
  rw [Bool.or_eq_false_iff] at e; exact e.2
def REN (A : Ab) (z : St) : Prop := RR (GN A) z ∧ ∀ m, m ≤ kN A + 1 → z.1 39 m = jI (sT A m)
theorem m_l55 {A : Ab} {zs : St} {Q : St → Prop} (hW : WF A) (rM : RM A zs) (good : ∀ z', Fz Sl zs z' → REN A z' → Q z') (bad : ∀ z', Fz Sl zs z' → z'.1 31 12 = 1 → 1001 < (GN A).1 → Q z') :
    ∀ (d k : Nat) (z : St), k + d = kN A → Fz Sl zs z → (∀ m, m ≤ k + 1 → z.1 39 m = jI (sT A m)) → RR (pr A k).1 z → L_M_list_55 Q (d + 1) (jI k) z := by
  intro d
  have h16 := hW.2.1
  induction d with
  | zero =>
    intro k z hk hz h39 hR
    have hk' : k = kN A := by omega
    subst hk'
    have rMz := rm_fr ⟨rfl, rfl, fun _ => rfl, fun _ => rfl, fun _ => rfl, fun _ => rfl, fun _ => rfl⟩ hz rM
    refine ⟨fun _ => good z hz ⟨hR, h39⟩, fun hn => absurd ?_ hn⟩
    rw [rMz.1.1]; exact Int32.le_refl _
  | succ d ih =>
    intro k z hk hz h39 hR
    have rMz := rm_fr ⟨rfl, rfl, fun _ => rfl, fun _ => rfl, fun _ => rfl, fun _ => rfl, fun _ => rfl⟩ hz rM
    have hlv := pr_lv hW (k := k) (by omega)
    have hle : sT A k ≤ (pr A k).1.1 := hlv.1
    refine ⟨fun hn => absurd hn ?_, fun _ => ⟨fun h => absurd hR.2.1 h, fun _ => ?_⟩⟩
    · rw [rMz.1.1, jI_le (by omega) (by omega)]; omega
    rw [show (2 : Int32) = jI 2 from rfl, jI_add, jI_tn (by omega)]
    refine ⟨vp_n (by omega) (by decide), ex1 ⟨vp_n (by omega) (by decide), ex1 ?_⟩⟩
    rw [jI_tn (by omega), zI_ne (by omega), h39 k (by omega)]
    have hzw : Fz Sl zs (wI z 39 (k + 2) 1010) := fz_I hz rfl
    refine ⟨_, m_l88 (zs := wI z 39 (k + 2) 1010) (b := (pr A k).1.1) (F := (pr A (k + 1)).1) hW (by omega) rfl hR.2.2.1 rMz ((zI_ne (by omega)).trans (h39 (k + 1) (Nat.le_refl _))) zI_at (fun z' hz' hR' => ?_) (fun z' hz' h1 h2 => ?_) ((pr A k).1.1 - (pr A k).2) (sT A k) (pr A k).1 _ (show (pr A k).2 + ((pr A k).1.1 - (pr A k).2) = (pr A k).1.1 from Nat.add_sub_cancel' hle) (Nat.le_refl _) rfl (lv_lp hlv) fz_rfl hR⟩
    · unfold J_M_list_119
      rw [show (2 : Int32) = jI 2 from rfl, jI_add, jI_tn (by omega)]
      refine ⟨vp_n (by omega) (by decide), ex1 (ex1 ?_)⟩
      rw [jI_s]
      refine ih (k + 1) _ (by omega) (fz_I (fz_trans hzw (fz_mono hz' sr_sl)) rfl) (fun m hm => ?_) hR'
      by_cases e : m = k + 2
      · subst e; rw [zI_at, hR'.1]; rfl
      · rw [zI_ne e, (hz' 39 m rfl).1, zI_ne e]; exact h39 m (by omega)
    · unfold J_M_list_119
      rw [show (2 : Int32) = jI 2 from rfl, jI_add, jI_tn (by omega)]
      have hb := bad (wI z' 39 (k + 2) (z'.1 31 13)) (fz_I (fz_trans hzw (fz_mono hz' sr_sl)) rfl) h1 (Nat.lt_of_lt_of_le h2 (gn_pf (A := A) (k := k + 1) (by omega)).1)
      exact ⟨vp_n (by omega) (by decide), ex1 (ex1 ⟨fun _ => hb, fun _ => ⟨fun _ => hb, fun h => absurd (h.symm.trans h1) (by decide)⟩⟩)⟩
theorem m_list {A : Ab} {z : St} {Q : St → Prop} (hW : WF A) (rM : RM A z) (good : ∀ z', Fz Sl z z' → REN A z' → Q z') (bad : ∀ z', Fz Sl z z' → z'.1 31 12 = 1 → 1001 < (GN A).1 → Q z') : P_M_list z Q := by
  have loop : ∀ (K : St → Prop), (∀ z', Fz Sl z z' → (∀ p, p < 4096 → z'.1 43 p = 0) → K z') → ∀ (d i : Nat) (z' : St), i + d = 4096 → Fz Sl z z' → (∀ p, p < i → z'.1 43 p = 0) → L_M_list_2 K Q (d + 1) (jI i) z' := by
    intro K hK d
    induction d with
    | zero =>
      intro i z' hi hz hp
      refine ⟨fun _ => hK z' hz (fun p hp' => hp p (by omega)), fun hn => absurd ?_ hn⟩
      rw [show (4096 : Int32) = jI 4096 from rfl, jI_le (by decide) (by omega)]; omega
    | succ d ih =>
      intro i z' hi hz hp
      refine ⟨fun hn => absurd hn ?_, fun _ => ⟨vp_n (by omega) (by decide), ex1 (ex1 ?_)⟩⟩
      · rw [show (4096 : Int32) = jI 4096 from rfl, jI_le (by decide) (by omega)]; omega
      rw [jI_tn (by omega), jI_s]
      refine ih (i + 1) _ (by omega) (fz_I hz rfl) (fun p hp' => ?_)
      by_cases e : p = i
      · subst e; exact zI_at
      · rw [zI_ne e]; exact hp p (by omega)
  obtain ⟨d, hd⟩ : ∃ d : Nat, d = 4096 := ⟨_, rfl⟩
  refine ⟨_, loop _ (fun z' hz hp => ?_) d 0 z (by omega) fz_rfl (fun p hp => absurd hp (Nat.not_lt_zero p))⟩
  refine ex1 ⟨by unfold vp_in; decide, ex1 ⟨by unfold vp_in; decide, ex1 (ex1 ⟨by unfold vp_in; decide, ex1 ?_⟩)⟩⟩
  generalize hz8 : wI (wI (wL (wI (wI z' 31 12 0) 39 (0 : Int32).toNatClampNeg 0) 40 (0 : Int32).toNatClampNeg 0) 31 13 1) 39 (1 : Int32).toNatClampNeg 1 = z8
  have hF : Fz Sl z z8 := by rw [← hz8]; exact fz_I (fz_I (fz_L (fz_I (fz_I hz rfl) rfl) rfl) rfl) rfl
  have rM8 := rm_fr ⟨rfl, rfl, fun _ => rfl, fun _ => rfl, fun _ => rfl, fun _ => rfl, fun _ => rfl⟩ hF rM
  refine ⟨_, m_l55 (zs := z8) hW rM8 (fun z9 hz9 h => good z9 (fz_trans hF hz9) h) (fun z9 hz9 h1 h2 => bad z9 (fz_trans hF hz9) h1 h2) (kN A) 0 z8 (by omega) fz_rfl (fun m hm => ?_) ?_⟩
  · have : m = 0 ∨ m = 1 := by omega
    rcases this with e | e <;> subst e <;> rw [← hz8] <;> rfl
  · rw [← hz8]
    refine ⟨rfl, rfl, show 1 ≤ 1 by decide, show 1 ≤ 1001 by decide, fun i hi => ?_, fun p hp' => ?_, fun i h1 hi => ?_⟩
    · have : i = 0 := by
        have hi' : i < 1 := hi
        omega
      subst this; rfl
    · refine (hp p hp').trans ?_
      show (0 : Int32) = jI (if 1 ≤ 0 ∧ _ then 1 else 0)
      rw [if_neg (fun h => absurd h.1 (by decide))]; rfl
    · have hi' : i < 1 := hi
      omega
