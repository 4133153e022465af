/-! The pure side: the persons of a panel are distinct persons of the pool. -/
theorem pk_spec {f : Nat → Nat} {c i : Nat} : ∀ {n : Nat}, i < cnt f c n → pk f c n i < n ∧ f (pk f c n i) = c ∧ cnt f c (pk f c n i) = i
  | 0, h => absurd h (Nat.not_lt_zero i)
  | n + 1, h => by
    have e : pk f c (n + 1) i = if f n = c ∧ cnt f c n = i then n else pk f c n i := rfl
    rw [e]
    by_cases h1 : f n = c ∧ cnt f c n = i
    · rw [if_pos h1]; exact ⟨Nat.lt_succ_self _, h1.1, h1.2⟩
    · rw [if_neg h1]
      have h2 : i < cnt f c n := by
        by_cases e1 : f n = c
        · rw [cnt_at e1] at h
          by_cases e2 : cnt f c n = i
          · exact absurd ⟨e1, e2⟩ h1
          · omega
        · rw [cnt_off e1] at h; exact h
      have := pk_spec h2
      exact ⟨by omega, this.2⟩
def PD (A : Ab) (k b : Nat) (g : Nat → Nat) : Prop := (∀ i, i < b → g i < aN A ∧ ∃ m, m < k ∧ aC A (g i) = kC A m) ∧ ∀ i i', i < b → i' < b → g i = g i' → i = i'
def SD (A : Ab) (k l b : Nat) (g : Nat → Nat) : Prop := (∀ i, i < b → g i < aN A ∧ ((∃ m, m < k ∧ aC A (g i) = kC A m) ∨ (aC A (g i) = kC A k ∧ cnt (aC A) (kC A k) (g i) + l < kH A k))) ∧ ∀ i i', i < b → i' < b → g i = g i' → i = i'
theorem sd_mono {A : Ab} {k l l' b : Nat} {g : Nat → Nat} (h : SD A k l b g) (hl : l' ≤ l) : SD A k l' b g :=
  ⟨fun i hi => ⟨(h.1 i hi).1, (h.1 i hi).2.imp id (fun h => ⟨h.1, by omega⟩)⟩, h.2⟩
theorem sel_sd {A : Ab} {k : Nat} (hW : WF A) (hk : k < kN A) : ∀ {l n x b : Nat} {g : Nat → Nat}, l ≤ kH A k → x < pas l n → SD A k l b g → SD A k 0 (b + n) (sel A k l n x b g)
  | 0, 0, _, _, _, _, _, h => h
  | 0, _ + 1, x, _, _, _, hx, _ => absurd hx (Nat.not_lt_zero x)
  | l + 1, 0, _, _, _, _, _, h => sd_mono h (Nat.zero_le _)
  | l + 1, n + 1, x, b, g, hl, hx, h => by
    have hsp : pas (l + 1) (n + 1) = pas l n + pas l (n + 1) := rfl
    have es : sel A k (l + 1) (n + 1) x b g = if x < pas l n then sel A k l n x (b + 1) (fup g b (pkA A k (kH A k - (l + 1)))) else sel A k l (n + 1) (x - pas l n) b g := rfl
    rw [es]
    by_cases c : x < pas l n
    · rw [if_pos c, show b + (n + 1) = b + 1 + n by omega]
      refine sel_sd hW hk (by omega) c ?_
      have hKk := hW.2.2.1.2.1 k hk
      have ps := pk_spec (f := aC A) (c := kC A k) (i := kH A k - (l + 1)) (n := aN A) (by rw [← hKk.2.1]; omega)
      have ne : ∀ i, i < b → g i ≠ pkA A k (kH A k - (l + 1)) := by
        intro i hi e
        rcases (h.1 i hi).2 with ⟨m, hm, e2⟩ | ⟨_, h3⟩
        · rw [e] at e2
          have h4 := hW.2.2.1.1 m k hm hk
          have h5 : aC A (pkA A k (kH A k - (l + 1))) = kC A k := ps.2.1
          omega
        · rw [e] at h3
          have h5 : cnt (aC A) (kC A k) (pkA A k (kH A k - (l + 1))) = kH A k - (l + 1) := ps.2.2
          omega
      refine ⟨fun i hi => ?_, fun i i' hi hi' e => ?_⟩
      · by_cases e : i = b
        · subst e
          rw [fup_at]
          exact ⟨ps.1, Or.inr ⟨ps.2.1, by rw [show cnt (aC A) (kC A k) (pkA A k (kH A k - (l + 1))) = kH A k - (l + 1) from ps.2.2]; omega⟩⟩
        · rw [fup_ne e]
          exact (sd_mono h (Nat.le_succ l)).1 i (by omega)
      · by_cases e1 : i = b
        · by_cases e2 : i' = b
          · omega
          · rw [e1, fup_at, fup_ne e2] at e
            exact absurd e.symm (ne i' (by omega))
        · by_cases e2 : i' = b
          · rw [e2, fup_at, fup_ne e1] at e
            exact absurd e (ne i (by omega))
          · rw [fup_ne e1, fup_ne e2] at e
            exact h.2 i i' (by omega) (by omega) e
    · rw [if_neg c]
      exact sel_sd hW hk (by omega) (by omega) (sd_mono h (Nat.le_succ l))
theorem tel_pd {A : Ab} (hW : WF A) : ∀ {d k r v b : Nat} {g : Nat → Nat}, k + d = kN A → VR A k r → v < wy A (kN A - k) r → b = hd r 12 → PD A k b g → PD A (kN A) (sZ A) (tel A d k r v b g)
  | 0, k, r, v, b, g, hk, hr, hv, hb, h => by
    have hk' : k = kN A := by omega
    subst hk'
    rw [Nat.sub_self] at hv
    have hp : panB A r 12 = true := by
      have hv' : v < if panB A r 12 = true then 1 else 0 := hv
      by_cases e : panB A r 12 = true
      · exact e
      · rw [if_neg e] at hv'; omega
    rw [← (panB_iff.mp hp).1, ← hb]; exact h
  | d + 1, k, r, v, b, g, hk, hr, hv, hb, h => by
    have hkk : k < kN A := by omega
    obtain ⟨bi1, bi2⟩ := bk_in hkk hv
    obtain ⟨w1, w2, w3⟩ := bk_w hkk hv
    have fn := vr_fit1 (j := (bk A k r v).1) hW hr (by omega)
    show PD A (kN A) (sZ A) (tel A d (k + 1) (nxt (kC A k) r (bk A k r v).1) ((bk A k r v).2 % wy A (kN A - (k + 1)) (nxt (kC A k) r (bk A k r v).1)) (b + (bk A k r v).1) (sel A k (kH A k) (bk A k r v).1 ((bk A k r v).2 / wy A (kN A - (k + 1)) (nxt (kC A k) r (bk A k r v).1)) b g))
    refine tel_pd hW (d := d) (k := k + 1) (by omega) (vr_nxt hW hkk hr bi1) w3 (by rw [n12_nxt fn, hb]) ?_
    have hs : SD A k (kH A k) b g := ⟨fun i hi => ⟨(h.1 i hi).1, Or.inl (h.1 i hi).2⟩, h.2⟩
    have hs2 := sel_sd hW hkk (Nat.le_refl _) w2 hs
    refine ⟨fun i hi => ⟨(hs2.1 i hi).1, ?_⟩, hs2.2⟩
    rcases (hs2.1 i hi).2 with ⟨m, hm, e⟩ | ⟨e, _⟩
    · exact ⟨m, by omega, e⟩
    · exact ⟨k, by omega, e⟩
theorem tlA_pd {A : Ab} {v : Nat} (hW : WF A) (hv : v < cnA A) : (∀ i, i < sZ A → tlA A v i < aN A) ∧ ∀ i i', i < sZ A → i' < sZ A → tlA A v i = tlA A v i' → i = i' := by
  have h := tel_pd (A := A) hW (d := kN A) (k := 0) (r := 0) (v := v) (b := 0) (g := fun _ => 0) (by omega) (vr_0 hW) hv (by decide) ⟨fun i hi => absurd hi (Nat.not_lt_zero i), fun i i' hi => absurd hi (Nat.not_lt_zero i)⟩
  exact ⟨fun i hi => (h.1 i hi).1, h.2⟩
