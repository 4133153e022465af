/-! The pure side: the reference counts the ways. -/
theorem m_choose {n k : Nat} {z : St} {Q : Int64 → St → Prop} (hn : n ≤ 40) (hk : k ≤ 8) (h : Q (jL (pas n k)) z) : P_M_choose (jI n) (jI k) z Q := by
  refine ⟨fun e => absurd e (jI_nn (by omega)), fun _ => ⟨fun hle => ?_, fun hgt => ?_⟩⟩
  · rw [jI_le (by omega) (by omega)] at hle
    have loop : ∀ (d j : Nat), j + d = k + 1 → 1 ≤ j → L_M_choose_16 Q (d + 1) (jI n) (jI k) (jL (pas (n - k + (j - 1)) (j - 1))) (jI j) z := by
      intro d
      induction d with
      | zero =>
        intro j hj h1
        refine ⟨fun _ => ?_, fun hn => absurd ?_ hn⟩
        · rw [show j - 1 = k by omega, show n - k + k = n by omega]; exact h
        · rw [jI_lt (by omega) (by omega)]; omega
      | succ d ih =>
        intro j hj h1
        have hp := pas_le (n := n - k + (j - 1)) (k := j - 1) (by omega) (by omega)
        have hb : pas (n - k + (j - 1)) (j - 1) * (n - k + j) ≤ 76904685 * 40 := Nat.mul_le_mul hp (by omega)
        have hid := pas_id (n - k + (j - 1)) (j - 1)
        rw [show n - k + (j - 1) + 1 = n - k + j by omega, show j - 1 + 1 = j by omega] at hid
        have hdv : pas (n - k + (j - 1)) (j - 1) * (n - k + j) / j = pas (n - k + j) j := by
          rw [← hid]; exact Nat.mul_div_cancel _ (by omega)
        refine ⟨fun e => absurd e ?_, fun _ => ?_⟩
        · rw [jI_lt (by omega) (by omega)]; omega
        rw [jI_toL (by omega), jI_sub hle, jI_add, jI_toL (by omega), jL_mul, jL_div (by omega) (by omega), hdv]
        refine ⟨fun e => absurd e ?_, ex1 (ex1 ?_)⟩
        · rw [show (0 : Int64) = jL 0 from rfl, jL_eq (by omega) (by omega)]; omega
        rw [jI_s]
        have := ih (j + 1) (by omega) (by omega)
        rw [show j + 1 - 1 = j by omega] at this
        exact this
    have := loop k 1 (by omega) (Nat.le_refl _)
    rw [show (1 : Nat) - 1 = 0 from rfl, pas_0] at this
    exact ⟨_, this⟩
  · rw [jI_le (by omega) (by omega)] at hgt
    rw [pas_big n k (by omega)] at h
    exact h
/-- the weight of a kind's number: with one person of the kind set aside, or not -/
def cf (A : Ab) (kd k j : Nat) : Nat := if k = kd then (if j = 0 then 0 else pas (kH A k - 1) (j - 1)) else pas (kH A k) j
def wq (A : Ab) (kd : Nat) : Nat → Nat → Nat
  | 0, r => if panB A r 12 = true then 1 else 0
  | n + 1, r => sm (fun j => cf A kd (kN A - (n + 1)) j * wq A kd n (nxt (kC A (kN A - (n + 1))) r j)) (tk A (kN A - (n + 1)) r + 1)
theorem wq_wy {A : Ab} {kd : Nat} (h : kN A ≤ kd) : ∀ {n r : Nat}, 1 ≤ kN A ∨ n = 0 → wq A kd n r = wy A n r
  | 0, _, _ => rfl
  | n + 1, r, hn => by
    refine sm_congr (fun j _ => ?_)
    have hk : kN A - (n + 1) ≠ kd := by omega
    have : cf A kd (kN A - (n + 1)) j = pas (kH A (kN A - (n + 1))) j := if_neg hk
    rw [this, wq_wy h (by omega)]
theorem wq_s {A : Ab} {kd k r : Nat} (hk : k < kN A) : wq A kd (kN A - k) r = sm (fun j => cf A kd k j * wq A kd (kN A - (k + 1)) (nxt (kC A k) r j)) (tk A k r + 1) := by
  rw [show kN A - k = (kN A - (k + 1)) + 1 by omega]
  show sm (fun j => cf A kd (kN A - (kN A - (k + 1) + 1)) j * wq A kd (kN A - (k + 1)) (nxt (kC A (kN A - (kN A - (k + 1) + 1))) r j)) (tk A (kN A - (kN A - (k + 1) + 1)) r + 1) = _
  rw [show kN A - (kN A - (k + 1) + 1) = k by omega]
theorem wy_s {A : Ab} {k r : Nat} (hk : k < kN A) : wy A (kN A - k) r = sm (fun j => pas (kH A k) j * wy A (kN A - (k + 1)) (nxt (kC A k) r j)) (tk A k r + 1) := by
  rw [show kN A - k = (kN A - (k + 1)) + 1 by omega]
  show sm (fun j => pas (kH A (kN A - (kN A - (k + 1) + 1))) j * wy A (kN A - (k + 1)) (nxt (kC A (kN A - (kN A - (k + 1) + 1))) r j)) (tk A (kN A - (kN A - (k + 1) + 1)) r + 1) = _
  rw [show kN A - (kN A - (k + 1) + 1) = k by omega]
abbrev S41 : Nat → Nat → Bool := fun c _ => c == 41
theorem rr_fr {S : Nat → Nat → Bool} {G : Li} {z z' : St} (hS : S 31 13 = false ∧ S 31 12 = false ∧ (∀ k, S 40 k = false) ∧ (∀ k, S 42 k = false) ∧ ∀ k, S 43 k = false) (hF : Fz S z z') (h : RR G z) : RR G z' := by
  obtain ⟨r13, r12, r1, r3, r40, h43, h42⟩ := h
  exact ⟨(hF 31 13 hS.1).1.trans r13, (hF 31 12 hS.2.1).1.trans r12, r1, r3, fun i hi => (hF 40 i (hS.2.2.1 i)).2.trans (r40 i hi), fun p hp => (hF 43 p (hS.2.2.2.2 p)).1.trans (h43 p hp), fun i h1 hi => (hF 42 i (hS.2.2.2.1 i)).1.trans (h42 i h1 hi)⟩
theorem ren_fr {S : Nat → Nat → Bool} {A : Ab} {z z' : St} (hS : S 31 13 = false ∧ S 31 12 = false ∧ (∀ k, S 40 k = false) ∧ (∀ k, S 42 k = false) ∧ ∀ k, S 43 k = false) (hS' : ∀ k, S 39 k = false) (hF : Fz S z z') (h : REN A z) : REN A z' :=
  ⟨rr_fr hS hF h.1, fun m hm => (hF 39 m (hS' m)).1.trans (h.2 m hm)⟩
def RA (A : Ab) (kd k : Nat) (z : St) : Prop := ∀ m i, k ≤ m → m ≤ kN A → sT A m ≤ i → i < sT A (m + 1) → z.2 41 i = jL (wq A kd (kN A - m) ((GN A).2 i))
/-- the reference finds the state that j more of kind k lead to, if the state takes so many -/
theorem m_next {A : Ab} {k s j : Nat} {z : St} {Q : Int32 → St → Prop} (hW : WF A) (hk : k < kN A) (h1 : sT A k ≤ s) (h2 : s < sT A (k + 1)) (hR : REN A z) (hj : j ≤ tk A k ((GN A).2 s) + 1) (hj2 : j ≤ kH A k)
    (hit : j ≤ tk A k ((GN A).2 s) → ∀ i, sT A (k + 1) ≤ i → i < sT A (k + 2) → i < (GN A).1 → (GN A).2 i = nxt (kC A k) ((GN A).2 s) j → Q (jI i) z) (miss : ¬ j ≤ tk A k ((GN A).2 s) → Q (-1) z) : P_M_find (jI (k + 1)) (jL (lo12 ((GN A).2 s)) + (jI j).toInt64 * jL (ad (kC A k))) z Q := by
  have h16 := hW.2.1
  have hv := gn_vr hW (by omega) h1 h2
  have hf := vr_fit1 (j := j) hW hv hj
  have h8 := tk8 (k := k) (r := (GN A).2 s) hW
  have hlen := hR.1.2.2.2.1
  have l1 := sT_len (A := A) (k := k) (by omega)
  have l2 : sT A (k + 2) ≤ (GN A).1 := sT_len (A := A) (k := k + 1) (by omega)
  have b1 : 1 ≤ sT A (k + 1) := by omega
  rw [jI_toL (by omega), jL_mul, jL_add, ← lo12_nxt hf]
  refine m_find (G := GN A) (k := k + 1) (a := sT A (k + 1)) (b := sT A (k + 2)) (x := nxt (kC A k) ((GN A).2 s) j) hR.1 (by omega) (hR.2 (k + 1) (by omega)) b1 (hR.2 (k + 2) (by omega)) (by omega) (fun i hi c1 c2 => (gn_vr hW (by omega) c1 c2).1) (by rw [hi_nxt hf, hv.1]) (fun i hi c1 c2 e => ?_) (fun hno => ?_)
  · have hvi := gn_vr hW (k := k + 1) (by omega) c1 c2
    have hjt : j ≤ tk A k ((GN A).2 s) := al_tk hW hk hf (by rw [← e]; exact vr_al hvi) hv hj2
    exact hit hjt i c1 c2 hi (vr_eq hvi (vr_nxt hW hk hv hjt) e)
  · refine miss (fun hjt => ?_)
    obtain ⟨i, c1, c2, hi, e⟩ := gn_next hW hk h1 h2 hjt
    exact hno i hi c1 c2 (by rw [e])
theorem m_w71 {A : Ab} {kd k s : Nat} {a1 : Int32} {z : St} {K1 K2 : Int32 → Int32 → Int32 → Int64 → St → Prop} {Q : St → Prop} (hW : WF A) (hk : k < kN A) (hkd : ∀ k, k ≤ 16 → (jI k = a1 ↔ k = kd)) (h1 : sT A k ≤ s) (h2 : s < sT A (k + 1)) (rM : RM A z) (hR : REN A z) (hA : RA A kd (k + 1) z)
    (hK1 : K1 a1 (jI k) (jI s) (jL (wq A kd (kN A - k) ((GN A).2 s))) z) (hK2 : K2 a1 (jI k) (jI s) (jL (wq A kd (kN A - k) ((GN A).2 s))) z) : ∃ n, L_M_work_71 K1 K2 Q n a1 (jI k) (jI s) 0 0 z := by
  have h16 := hW.2.1
  have h40 := hW.1
  have hKk := hW.2.2.1.2.1 k hk
  have hle := kH_le hW.2.2.1 hk
  have h8 := tk8 (k := k) (r := (GN A).2 s) hW
  have hlen := hR.1.2.2.2.1
  have l1 := sT_len (A := A) (k := k) (by omega)
  have l2 : sT A (k + 2) ≤ (GN A).1 := sT_len (A := A) (k := k + 1) (by omega)
  rw [wq_s hk] at hK1 hK2
  generalize hf : (fun j => cf A kd k j * wq A kd (kN A - (k + 1)) (nxt (kC A k) ((GN A).2 s) j)) = f at hK1 hK2
  have loop : ∀ (d j : Nat), j + d = tk A k ((GN A).2 s) + 1 → L_M_work_71 K1 K2 Q (d + 1) a1 (jI k) (jI s) (jL (sm f j)) (jI j) z := by
    intro d
    induction d with
    | zero =>
      intro j hj
      have ej : j = tk A k ((GN A).2 s) + 1 := by omega
      rw [ej]
      refine ⟨fun hn => absurd hn ?_, fun _ => ⟨vp_n (by omega) (by decide), fun _ => hK2, fun hge => ⟨fun _ => hK2, fun _ => ⟨vp_n (by omega) (by decide), ?_⟩⟩⟩⟩
      · rw [rM.1.1, jI_le (by omega) (by omega)]; omega
      rw [jI_tn (by omega), rM.1.2.2 k hk, jI_lt (by omega) (by omega)] at hge
      refine m_adds hW hk rM.1 ?_
      rw [show (1 : Int32) = jI 1 from rfl, jI_add, jI_tn (by omega), hR.1.2.2.2.2.1 s (by omega)]
      refine m_next hW hk h1 h2 hR (by omega) (by omega) (fun h => absurd h (by omega)) (fun _ => ⟨fun h => absurd h (by decide), fun _ => hK1⟩)
    | succ d ih =>
      intro j hj
      have tl := tk_le.mp (show j ≤ tk A k ((GN A).2 s) by omega)
      refine ⟨fun hn => absurd hn ?_, fun _ => ⟨vp_n (by omega) (by decide), fun h => absurd h ?_, fun _ => ⟨fun h => absurd h ?_, fun _ => ⟨vp_n (by omega) (by decide), ?_⟩⟩⟩⟩
      · rw [rM.1.1, jI_le (by omega) (by omega)]; omega
      · rw [jI_tn (by omega), rM.1.2.2 k hk, jI_lt (by omega) (by omega)]; omega
      · rw [show (8 : Int32) = jI 8 from rfl, jI_lt (by omega) (by omega)]; omega
      refine m_adds hW hk rM.1 ?_
      rw [show (1 : Int32) = jI 1 from rfl, jI_add, jI_tn (n := s) (by omega), hR.1.2.2.2.2.1 s (by omega)]
      refine m_next hW hk h1 h2 hR (by omega) (by omega) (fun _ i c1 c2 hi ei => ⟨fun _ => ⟨vp_n (by omega) (by decide), fun hne => ⟨vp_n (by omega) (by decide), ?_⟩, fun he => ⟨vp_n (by omega) (by decide), ?_⟩⟩, fun h => absurd (jI_0le (by omega)) h⟩) (fun h => absurd (by omega) h)
      · rw [hkd k (by omega)] at hne
        rw [jI_tn (by omega), rM.1.2.2 k hk]
        refine m_choose (by omega) (by omega) (ex1 (ex1 ?_))
        rw [jI_tn (by omega), hA (k + 1) i (Nat.le_refl _) (by omega) c1 c2, ei, jL_mul, jL_add, jI_add]
        have : sm f j + wq A kd (kN A - (k + 1)) (nxt (kC A k) ((GN A).2 s) j) * pas (kH A k) j = sm f (j + 1) := by
          show _ = sm f j + f j
          rw [← hf]
          show _ = _ + cf A kd k j * _
          rw [show cf A kd k j = pas (kH A k) j from if_neg hne, Nat.mul_comm]
        rw [this]
        exact ih (j + 1) (by omega)
      · rw [hkd k (by omega)] at he
        rw [jI_tn (by omega), rM.1.2.2 k hk, jI_sub (by omega)]
        by_cases e0 : j = 0
        · subst e0
          refine ⟨fun _ => ex1 (ex1 ?_), fun h => absurd (by decide) h⟩
          rw [jI_tn (by omega), hA (k + 1) i (Nat.le_refl _) (by omega) c1 c2, ei, show (0 : Int64) = jL 0 from rfl, jL_mul, jL_add, jI_add]
          have : sm f 0 + wq A kd (kN A - (k + 1)) (nxt (kC A k) ((GN A).2 s) 0) * 0 = sm f (0 + 1) := by
            show _ = sm f 0 + f 0
            rw [← hf]
            show _ = _ + cf A kd k 0 * _
            rw [show cf A kd k 0 = 0 from by unfold cf; rw [if_pos he, if_pos rfl], Nat.zero_mul, Nat.mul_zero]
          rw [this]
          exact ih (0 + 1) (by omega)
        · rw [jI_sub (by omega)]
          refine m_choose (by omega) (by omega) (ex1 (ex1 ?_))
          rw [jI_tn (by omega), hA (k + 1) i (Nat.le_refl _) (by omega) c1 c2, ei, jL_mul, jL_add, jI_add]
          have : sm f j + wq A kd (kN A - (k + 1)) (nxt (kC A k) ((GN A).2 s) j) * pas (kH A k - 1) (j - 1) = sm f (j + 1) := by
            show _ = sm f j + f j
            rw [← hf]
            show _ = _ + cf A kd k j * _
            rw [show cf A kd k j = pas (kH A k - 1) (j - 1) from by unfold cf; rw [if_pos he, if_neg e0], Nat.mul_comm]
          rw [this]
          exact ih (j + 1) (by omega)
  exact ⟨_, loop (tk A k ((GN A).2 s) + 1) 0 (by omega)⟩
