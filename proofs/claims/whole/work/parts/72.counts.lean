/-! The pure side: all the numbers of the reference. -/
theorem s41_ren {A : Ab} {z z' : St} (hF : Fz S41 z z') (h : REN A z) : REN A z' := ren_fr ⟨rfl, rfl, fun _ => rfl, fun _ => rfl, fun _ => rfl⟩ (fun _ => rfl) hF h
theorem s41_rm {A : Ab} {z z' : St} (hF : Fz S41 z z') (h : RM A z) : RM A z' := rm_fr ⟨rfl, rfl, fun _ => rfl, fun _ => rfl, fun _ => rfl, fun _ => rfl, fun _ => rfl⟩ hF h
theorem m_w28 {A : Ab} {kd k : Nat} {a1 : Int32} {zs : St} {K : Int32 → Int32 → St → Prop} {Q : St → Prop} (hW : WF A) (hk : k ≤ kN A) (hkd : ∀ k, k ≤ 16 → (jI k = a1 ↔ k = kd)) (rM : RM A zs) (hR : REN A zs)
    (hK : ∀ z', Fz S41 zs z' → RA A kd k z' → K a1 (jI k) z') : ∀ (d s : Nat) (z : St), s + d = sT A (k + 1) → sT A k ≤ s → Fz S41 zs z → RA A kd (k + 1) z → (∀ i, sT A k ≤ i → i < s → z.2 41 i = jL (wq A kd (kN A - k) ((GN A).2 i))) → L_M_work_28 K Q (d + 1) a1 (jI k) (jI s) z := by
  intro d
  have h16 := hW.2.1
  have hlen := hR.1.2.2.2.1
  have l1 := sT_len (A := A) (k := k) hk
  induction d with
  | zero =>
    intro s z hs h1 hz hA hd
    have h39 := (s41_ren hz hR).2 (k + 1) (by omega)
    unfold L_M_work_28
    rw [show (1 : Int32) = jI 1 from rfl, jI_add, jI_tn (by omega), h39, jI_le (by omega) (by omega)]
    refine ⟨vp_n (by omega) (by decide), fun _ => hK z hz (fun m i a1 a2 a3 a4 => ?_), fun hn => absurd (by omega) hn⟩
    by_cases e : m = k
    · subst e; exact hd i a3 (by omega)
    · exact hA m i (by omega) a2 a3 a4
  | succ d ih =>
    intro s z hs h1 hz hA hd
    have hRz := s41_ren hz hR
    have rMz := s41_rm hz rM
    have h39 := hRz.2 (k + 1) (by omega)
    have hv := gn_vr hW hk h1 (by omega)
    have fin : ∀ x : Int64, x = jL (wq A kd (kN A - k) ((GN A).2 s)) → vp_in (jI s) 1010 ∧ ∀ z26 : St, z26 = wL z 41 (jI s).toNatClampNeg x → ∀ x27 : Int32, x27 = jI s + 1 → L_M_work_28 K Q (d + 1) a1 (jI k) x27 z26 := by
      intro x hx
      refine ⟨vp_n (by omega) (by decide), ex1 (ex1 ?_)⟩
      rw [jI_tn (by omega), jI_s]
      refine ih (s + 1) _ (by omega) (by omega) (fz_L hz rfl) (fun m i a1 a2 a3 a4 => ?_) (fun i a1 a2 => ?_)
      · have hmo := sT_mono hW (k := k + 1) (d := m - (k + 1)) (by omega)
        rw [show k + 1 + (m - (k + 1)) = m by omega] at hmo
        rw [zL_ne (by omega)]; exact hA m i a1 a2 a3 a4
      · by_cases e : i = s
        · subst e; rw [zL_at]; exact hx
        · rw [zL_ne e]; exact hd i a1 (by omega)
    unfold L_M_work_28
    rw [show (jI k + (1 : Int32)) = jI (k + 1) from jI_s k, jI_tn (n := k + 1) (by omega), h39, jI_le (by omega) (by omega)]
    refine ⟨vp_n (by omega) (by decide), fun hn => absurd hn (by omega), fun _ => ⟨fun hne => ?_, fun he => ⟨vp_n (by omega) (by decide), ?_⟩⟩⟩
    · have hlt : k < kN A := by
        by_cases e : k = kN A
        · subst e; exact absurd rMz.1.1.symm hne
        · omega
      exact m_w71 hW hlt hkd h1 (by omega) rMz hRz hA (fin _ rfl) (fin _ rfl)
    · have ek : k = kN A := by rw [rMz.1.1, jI_eq (by omega) (by omega)] at he; exact he
      have hl := lo12_lt ((GN A).2 s)
      have h12 : (16 : Nat) ^ 12 = 281474976710656 := rfl
      rw [h12] at hl
      have e0 : wq A kd (kN A - k) ((GN A).2 s) = if panB A ((GN A).2 s) 12 = true then 1 else 0 := by rw [ek, Nat.sub_self]; rfl
      have last : ∀ (K1 K2 : Int32 → Int32 → Int32 → Int64 → St → Prop) (x : Int64), K2 a1 (jI k) (jI s) x z → ∃ n, L_M_work_71 K1 K2 Q n a1 (jI k) (jI s) x 0 z := by
        intro K1 K2 x h
        refine ⟨1, fun _ => h, fun hn => absurd ?_ hn⟩
        rw [rMz.1.1, ek]; exact Int32.le_refl _
      rw [jI_tn (by omega), hRz.1.2.2.2.2.1 s (by omega)]
      refine m_isPanel hW (by omega) rMz.2.1 rMz.2.2.1 rMz.2.2.2 ?_
      rw [vr_pan hv]
      refine ⟨fun h0 => last _ _ _ (fin _ ?_), fun h1 => last _ _ _ (fin _ ?_)⟩
      · rw [e0]
        cases hb : panB A ((GN A).2 s) 12 with
        | true => rw [hb] at h0; exact absurd h0 (by decide)
        | false => rfl
      · rw [e0]
        cases hb : panB A ((GN A).2 s) 12 with
        | true => rfl
        | false => rw [hb] at h1; exact absurd rfl h1
theorem m_w17 {A : Ab} {kd : Nat} {a1 : Int32} {zs : St} {Q : St → Prop} (hW : WF A) (hkd : ∀ k, k ≤ 16 → (jI k = a1 ↔ k = kd)) (rM : RM A zs) (hR : REN A zs) (hQ : ∀ z', Fz S41 zs z' → RA A kd 0 z' → Q z') :
    ∀ (k : Nat) (z : St), k ≤ kN A + 1 → Fz S41 zs z → RA A kd k z → L_M_work_17 Q (k + 1) a1 (jI k - 1) z := by
  intro k
  have h16 := hW.2.1
  have hlen := hR.1.2.2.2.1
  induction k with
  | zero =>
    intro z _ hz hA
    exact ⟨fun _ => hQ z hz hA, fun hn => absurd (by decide) hn⟩
  | succ k ih =>
    intro z hk hz hA
    have h39 := (s41_ren hz hR).2 k (by omega)
    have hle := sT_le hW (k := k) (by omega)
    rw [jI_p (by omega), show k + 1 - 1 = k by omega]
    refine ⟨fun hn => absurd hn (jI_nn (by omega)), fun _ => ⟨vp_n (by omega) (by decide), ex1 ?_⟩⟩
    rw [jI_tn (by omega), h39]
    refine ⟨_, m_w28 (zs := z) hW (by omega) hkd (s41_rm hz rM) (s41_ren hz hR) (fun z' hz' hA' => ex1 (p := fun y => L_M_work_17 Q (k + 1) a1 y z') (ih z' (by omega) (fz_trans hz hz') hA')) (sT A (k + 1) - sT A k) (sT A k) z (by omega) (Nat.le_refl _) fz_rfl hA (fun i a1 a2 => absurd a2 (by omega))⟩
abbrev Sw : Nat → Nat → Bool := fun c k => c == 41 || Sl c k
theorem sl_sw (c k : Nat) (e : Sw c k = false) : Sl c k = false := by
  rw [Bool.or_eq_false_iff] at e; exact e.2
theorem s41_sw (c k : Nat) (e : Sw c k = false) : S41 c k = false := by
  rw [Bool.or_eq_false_iff] at e; exact e.1
theorem m_work {A : Ab} {kd : Nat} {a1 : Int32} {z : St} {Q : St → Prop} (hW : WF A) (hkd : ∀ k, k ≤ 16 → (jI k = a1 ↔ k = kd)) (rM : RM A z) (good : (GN A).1 ≤ 1001 → ∀ z', Fz Sw z z' → REN A z' → RA A kd 0 z' → Q z') (bad : 1001 < (GN A).1 → ∀ z', Fz Sw z z' → z'.1 31 12 = 1 → Q z') : P_M_work a1 z Q := by
  have h16 := hW.2.1
  refine m_list hW rM (fun z1 hz1 hR => ⟨fun _ => ex1 ?_, fun h => absurd hR.1.2.1 h⟩) (fun z1 hz1 h1 h2 => ⟨fun h => absurd (h.symm.trans h1) (by decide), fun _ => bad h2 z1 (fz_mono hz1 sl_sw) h1⟩)
  have rM1 := rm_fr ⟨rfl, rfl, fun _ => rfl, fun _ => rfl, fun _ => rfl, fun _ => rfl, fun _ => rfl⟩ hz1 rM
  have := m_w17 (zs := z1) (Q := Q) hW hkd rM1 hR (fun z2 hz2 hA => good hR.1.2.2.2.1 z2 (fz_trans (fz_mono hz1 sl_sw) (fz_mono hz2 s41_sw)) (s41_ren hz2 hR) hA) (kN A + 1) z1 (Nat.le_refl _) fz_rfl (fun m i a1 a2 => by omega)
  rw [jI_p (by omega), show kN A + 1 - 1 = kN A by omega] at this
  rw [rM1.1.1]
  exact ⟨_, this⟩
/-- what the reference holds when it has counted: too many states, or all its numbers -/
def RAB (A : Ab) (z : St) : Prop := REN A z ∧ RA A 99 0 z
def ROK (A : Ab) (z : St) : Prop := (z.1 31 12 = 1 ∧ 1001 < (GN A).1) ∨ (z.1 31 12 = 0 ∧ (GN A).1 ≤ 1001 ∧ RAB A z)
theorem kd99 : ∀ k, k ≤ 16 → (jI k = -1 ↔ k = 99) := fun k hk => ⟨fun h => absurd h (jI_m1 (by omega)), fun h => by omega⟩
abbrev Sw1 : Nat → Nat → Bool := fun c k => (c == 31 && k == 11) || Sw c k
theorem sw_sw1 (c k : Nat) (e : Sw1 c k = false) : Sw c k = false := by
  rw [Bool.or_eq_false_iff] at e; exact e.2
theorem rok_fr {S : Nat → Nat → Bool} {A : Ab} {z z' : St} (hS : S 31 13 = false ∧ S 31 12 = false ∧ (∀ k, S 40 k = false) ∧ (∀ k, S 42 k = false) ∧ ∀ k, S 43 k = false) (hS' : (∀ k, S 39 k = false) ∧ ∀ k, S 41 k = false) (hF : Fz S z z') (h : ROK A z) : ROK A z' := by
  rcases h with ⟨h1, h2⟩ | ⟨h1, h2, h3, h4⟩
  · exact Or.inl ⟨(hF 31 12 hS.2.1).1.trans h1, h2⟩
  · exact Or.inr ⟨(hF 31 12 hS.2.1).1.trans h1, h2, ren_fr hS hS'.1 hF h3, fun m i a1 a2 a3 a4 => (hF 41 i (hS'.2 i)).2.trans (h4 m i a1 a2 a3 a4)⟩
theorem m_counts {A : Ab} {z : St} {Q : Int32 → St → Prop} (hW : WF A) (rM : RM A z) (hC : z.1 31 11 = 0 ∨ ROK A z)
    (good : (GN A).1 ≤ 1001 → ∀ z', Fz Sw1 z z' → z'.1 31 11 = 1 → ROK A z' → RAB A z' → Q 1 z') (bad : 1001 < (GN A).1 → ∀ z', Fz Sw1 z z' → z'.1 31 11 = 1 → ROK A z' → Q 0 z') : P_M_counts z Q := by
  have join : ∀ z1, Fz Sw1 z z1 → ROK A z1 → J_M_counts_12 Q z1 := by
    intro z1 hz1 hR
    have hR' : ROK A (wI z1 31 11 1) := rok_fr (S := fun c k => c == 31 && k == 11) ⟨rfl, rfl, fun _ => rfl, fun _ => rfl, fun _ => rfl⟩ ⟨fun _ => rfl, fun _ => rfl⟩ (fz_I fz_rfl rfl) hR
    refine ex1 ⟨fun h => ?_, fun h => ?_⟩
    · rcases id hR' with ⟨h1, h2⟩ | ⟨h1, h2, h3⟩
      · exact bad h2 _ (fz_I hz1 rfl) rfl hR'
      · exact absurd h1 h
    · rcases id hR' with ⟨h1, h2⟩ | ⟨h1, h2, h3⟩
      · exact absurd (h.symm.trans h1) (by decide)
      · exact good h2 _ (fz_I hz1 rfl) rfl hR' h3
  refine ⟨fun h => join z fz_rfl (hC.resolve_left h), fun _ => m_work hW kd99 rM (fun h z1 hz1 hR hA => join z1 (fz_mono hz1 sw_sw1) (Or.inr ⟨hR.1.2.1, h, hR, hA⟩)) (fun h z1 hz1 h1 => join z1 (fz_mono hz1 sw_sw1) (Or.inl ⟨h1, h⟩))⟩
/-- both sides' number of all panels -/
def cnA (A : Ab) : Nat := wy A (kN A) 0
theorem cn_le {A : Ab} (hW : WF A) : cnA A ≤ 76904685 := wy_lt hW (Nat.le_refl _) (by rw [Nat.sub_self]; exact vr_0 hW)
theorem tab_0 {A : Ab} {z : St} (hW : WF A) (h : TAB A z) : z.2 14 0 = jL (cnA A) := by
  have := h.2 0 0 (Nat.zero_le _) (Nat.zero_le _) (Nat.zero_le _) (show 0 < 1 by decide)
  rw [gn_0] at this; exact this
theorem ra_0 {A : Ab} {kd : Nat} {z : St} (h : RA A kd 0 z) : z.2 41 0 = jL (wq A kd (kN A) 0) := by
  have := h 0 0 (Nat.zero_le _) (Nat.zero_le _) (Nat.zero_le _) (show 0 < 1 by decide)
  rw [gn_0] at this; exact this
theorem rab_0 {A : Ab} {z : St} (hW : WF A) (h : RAB A z) : z.2 41 0 = jL (cnA A) := by
  rw [ra_0 h.2, wq_wy (by have := hW.2.1; omega) (by omega)]; rfl
