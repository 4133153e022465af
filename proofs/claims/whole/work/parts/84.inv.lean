/-! The pure side: what holds between the calls. -/
def MKI (A : Ab) (z : St) : Prop := ∃ m : Nat, z.2 0 9 = jL m ∧ m < 2 ^ aN A ∧ MR A (fun p => m.testBit p) z
/-- the seats: not drawn, or drawn -/
def SEI (A : Ab) (se : Nat → Nat) (sM gM : Nat) (z : St) : Prop :=
  (z.1 26 5 = 0 ∧ z.2 26 6 = 0 ∧ z.2 26 7 = 0 ∧ z.1 26 8 = -1 ∧ z.1 31 19 = 0 ∧ z.1 31 21 = -1 ∧ ∀ p, p < aN A → z.1 45 p = 0) ∨
  (z.1 31 19 = 1 ∧ (GN A).1 ≤ 1001 ∧ ST A se z ∧ MS A se sM gM z ∧ ((z.1 26 8 = -1 ∧ z.1 31 21 = -1) ∨ ∃ e, e < sZ A ∧ z.1 26 8 = jI e ∧ z.1 31 21 = jI e ∧ se e = 0))
/-- the dice on the table: s sides, goal g, n throws -/
def DAC (s g n : Nat) (z : St) : Prop := z.1 25 0 = 1 ∧ 2 ≤ s ∧ s ≤ 20 ∧ z.1 25 2 = jI s ∧ z.1 31 23 = jI s ∧ 1 ≤ g ∧ z.2 25 3 = jL g ∧ z.2 31 26 = jL g ∧ n ≤ 27 ∧ g ≤ s ^ n ∧ s ^ n < 4611686018427387904 ∧ z.2 25 4 = jL (s ^ n) ∧ z.2 31 28 = jL (s ^ n) ∧ z.1 25 5 = jI n ∧ z.1 31 25 = jI n ∧
  ((z.1 25 1 = 0 ∧ z.1 31 29 = 0 ∧ ∃ t v, t < n ∧ v < s ^ t ∧ z.1 25 6 = jI t ∧ z.1 31 24 = jI t ∧ z.2 25 7 = jL v ∧ z.2 31 27 = jL v) ∨ (z.1 25 1 = 1 ∧ z.1 31 29 = 1 ∧ ∃ v, v < g ∧ z.2 25 7 = jL v ∧ z.2 31 30 = jL v))
def DID (z : St) : Prop := z.1 25 0 = 0 ∧ z.1 25 1 = 0 ∧ z.1 31 23 = 0 ∧ z.1 31 29 = 0
/-- what the goal of the dice is -/
def GO (A : Ab) (se : Nat → Nat) (sM gM g : Nat) (z : St) : Prop := (z.1 31 19 = 0 ∧ z.1 0 10 = 1 ∧ (GN A).1 ≤ 1001 ∧ g = cnA A) ∨ (z.1 31 19 = 1 ∧ ¬ z.1 31 21 = -1 ∧ g = cA A se sM gM)
def DII (A : Ab) (se : Nat → Nat) (sM gM : Nat) (z : St) : Prop := DID z ∨ ∃ s g n, DAC s g n z ∧ GO A se sM gM g z
def TCI (A : Ab) (z : St) : Prop := z.1 0 10 = 0 ∨ (z.1 0 10 = 1 ∧ TOK A z ∧ (z.1 9 11 = 1 ∨ BH A z))
def RCI (A : Ab) (z : St) : Prop := z.1 31 11 = 0 ∨ (z.1 31 11 = 1 ∧ ROK A z)
/-- quotas left out one after another, up to the q-th: the quotas, how many names, the names, refused -/
def lv (A : Ab) (q : Nat) : Ab := (aN A, aC A, kN A, kC A, kH A, vS A, fup (lO A) q 0, fup (hI A) q 8, sZ A)
def cl (A : Ab) : Nat → Ab × Nat × (Nat → Nat) × Bool
  | 0 => (A, 0, (fun _ => 0), false)
  | q + 1 => if (cl A q).2.2.2 = true then cl A q else if vS A (q / 4) ≤ q % 4 then cl A q else if lO A q = 0 ∧ hI A q = 8 then cl A q else if 1001 < (GN (lv (cl A q).1 q)).1 then (lv (cl A q).1 q, (cl A q).2.1, (cl A q).2.2.1, true) else if cnA (lv (cl A q).1 q) = 0 then (lv (cl A q).1 q, (cl A q).2.1, (cl A q).2.2.1, false) else ((cl A q).1, (cl A q).2.1 + 1, fup (cl A q).2.2.1 (cl A q).2.1 (10 * (q / 4) + q % 4), false)
def COK (A : Ab) (z : St) : Prop := z.1 20 5 = bI (cl A 12).2.2.2 ∧ ((cl A 12).2.2.2 = false → z.1 20 4 = jI (cl A 12).2.1 ∧ ∀ i, i < (cl A 12).2.1 → z.1 24 i = jI ((cl A 12).2.2.1 i))
def CCI (A : Ab) (z : St) : Prop := z.1 0 11 = 0 ∨ (z.1 0 11 = 1 ∧ COK A z)
/-- pool, marks, seats -/
def BAS (A : Ab) (se : Nat → Nat) (sM gM : Nat) (z : St) : Prop := WF A ∧ Pool A z ∧ MKI A z ∧ Pas (z.1 18) ∧ SEI A se sM gM z
def IV (A : Ab) (se : Nat → Nat) (sM gM : Nat) (z : St) : Prop := BAS A se sM gM z ∧ z.1 17 0 = 0 ∧ DII A se sM gM z ∧ TCI A z ∧ RCI A z ∧ CCI A z
def Inv (z : St) : Prop := ∃ A se sM gM, IV A se sM gM z
/-! Frames. -/
abbrev Sk : Nat → Nat → Bool := fun c k => (decide (9 ≤ c) && decide (c ≤ 17)) || ((decide (20 ≤ c) && decide (c ≤ 24)) || ((decide (28 ≤ c) && decide (c ≤ 30)) || ((decide (39 ≤ c) && decide (c ≤ 43)) || ((decide (46 ≤ c) && decide (c ≤ 49)) || ((c == 0 && (k == 10 || k == 11)) || (c == 31 && (k == 0 || (k == 11 || (k == 12 || (k == 13 || k == 34)))))))))) 
theorem pool_fr {S : Nat → Nat → Bool} {A : Ab} {z z' : St} (h1 : ∀ c k, 1 ≤ c → c ≤ 8 → S c k = false) (h08 : S 0 8 = false) (h2 : ∀ c k, 32 ≤ c → c ≤ 38 → S c k = false) (h3 : S 31 8 = false ∧ S 31 1 = false ∧ S 31 7 = false) (hF : Fz S z z') (h : Pool A z) : Pool A z' := by
  obtain ⟨⟨oK, oP, oV, oQ, oS⟩, rK, rP, rV, rQ, rS⟩ := h
  exact ⟨⟨ok_fr ⟨h1 1 5 (by decide) (by decide), fun k => h1 4 k (by decide) (by decide), fun k => h1 5 k (by decide) (by decide)⟩ hF oK, op_fr ⟨h1 1 4 (by decide) (by decide), fun k => h1 3 k (by decide) (by decide)⟩ hF oP, ov_fr (fun k => h1 2 k (by decide) (by decide)) hF oV, oq_fr ⟨fun k => h1 7 k (by decide) (by decide), fun k => h1 8 k (by decide) (by decide)⟩ hF oQ, (hF 0 8 h08).1.trans oS⟩, rk_fr ⟨h3.1, fun k => h2 37 k (by decide) (by decide), fun k => h2 38 k (by decide) (by decide)⟩ hF rK, rp_fr ⟨h3.2.1, fun k => h2 32 k (by decide) (by decide)⟩ hF rP, rv_fr (fun k => h2 34 k (by decide) (by decide)) hF rV, rq_fr ⟨fun k => h2 35 k (by decide) (by decide), fun k => h2 36 k (by decide) (by decide)⟩ hF rQ, (hF 31 7 h3.2.2).1.trans rS⟩
theorem mki_fr {A : Ab} {z z' : St} {S : Nat → Nat → Bool} (h1 : S 0 9 = false) (h2 : ∀ k, S 33 k = false) (hF : Fz S z z') (h : MKI A z) : MKI A z' := by
  obtain ⟨m, e, hm, hr⟩ := h
  exact ⟨m, (hF 0 9 h1).2.trans e, hm, fun p hp => (hF 33 p (h2 p)).1.trans (hr p hp)⟩
theorem st_fr {A : Ab} {se : Nat → Nat} {z z' : St} {S : Nat → Nat → Bool} (h1 : S 26 5 = false) (h2 : ∀ k, S 27 k = false) (h3 : ∀ k, S 44 k = false) (hF : Fz S z z') (h : ST A se z) : ST A se z' :=
  ⟨(hF 26 5 h1).1.trans h.1, fun i hi => ⟨(hF 27 i (h2 i)).1.trans (h.2.1 i hi).1, (hF 44 i (h3 i)).1.trans (h.2.1 i hi).2⟩, h.2.2⟩
theorem ms_fr {A : Ab} {se : Nat → Nat} {sM gM : Nat} {z z' : St} {S : Nat → Nat → Bool} (h1 : S 26 6 = false ∧ S 26 7 = false) (h2 : ∀ k, S 45 k = false) (hF : Fz S z z') (h : MS A se sM gM z) : MS A se sM gM z' :=
  ⟨(hF 26 6 h1.1).2.trans h.1, (hF 26 7 h1.2).2.trans h.2.1, h.2.2.1, h.2.2.2.1, h.2.2.2.2.1, fun p hp => (hF 45 p (h2 p)).1.trans (h.2.2.2.2.2 p hp)⟩
theorem sei_fr {A : Ab} {se : Nat → Nat} {sM gM : Nat} {z z' : St} {S : Nat → Nat → Bool} (h1 : ∀ k, S 26 k = false) (h2 : ∀ k, S 27 k = false) (h3 : ∀ k, S 44 k = false) (h4 : ∀ k, S 45 k = false) (h5 : S 31 19 = false ∧ S 31 21 = false) (hF : Fz S z z') (h : SEI A se sM gM z) : SEI A se sM gM z' := by
  rcases h with ⟨a, b, c, d, e, f, g⟩ | ⟨a, b, c, d, e⟩
  · exact Or.inl ⟨(hF 26 5 (h1 5)).1.trans a, (hF 26 6 (h1 6)).2.trans b, (hF 26 7 (h1 7)).2.trans c, (hF 26 8 (h1 8)).1.trans d, (hF 31 19 h5.1).1.trans e, (hF 31 21 h5.2).1.trans f, fun p hp => (hF 45 p (h4 p)).1.trans (g p hp)⟩
  · refine Or.inr ⟨(hF 31 19 h5.1).1.trans a, b, st_fr (h1 5) h2 h3 hF c, ms_fr ⟨h1 6, h1 7⟩ h4 hF d, ?_⟩
    rcases e with ⟨e1, e2⟩ | ⟨x, hx, e1, e2, e3⟩
    · exact Or.inl ⟨(hF 26 8 (h1 8)).1.trans e1, (hF 31 21 h5.2).1.trans e2⟩
    · exact Or.inr ⟨x, hx, (hF 26 8 (h1 8)).1.trans e1, (hF 31 21 h5.2).1.trans e2, e3⟩
theorem sk_pool (c k : Nat) (h : (1 ≤ c ∧ c ≤ 8) ∨ (32 ≤ c ∧ c ≤ 38) ∨ c = 18 ∨ (25 ≤ c ∧ c ≤ 27) ∨ c = 44 ∨ c = 45) : Sk c k = false := by
  simp only [Bool.or_eq_false_iff, Bool.and_eq_false_iff, decide_eq_false_iff_not, beq_eq_false_iff_ne]
  refine ⟨by omega, by omega, by omega, by omega, by omega, Or.inl (by omega), Or.inl (by omega)⟩
theorem bas_fr {A : Ab} {se : Nat → Nat} {sM gM : Nat} {z z' : St} (hF : Fz Sk z z') (h : BAS A se sM gM z) : BAS A se sM gM z' := by
  obtain ⟨hW, hP, hM, hp, hS⟩ := h
  refine ⟨hW, pool_fr (fun c k h1 h2 => sk_pool c k (Or.inl ⟨h1, h2⟩)) rfl (fun c k h1 h2 => sk_pool c k (Or.inr (Or.inl ⟨h1, h2⟩))) ⟨rfl, rfl, rfl⟩ hF hP, mki_fr rfl (fun k => sk_pool 33 k (by omega)) hF hM, pas_fr (fun k => sk_pool 18 k (by omega)) hF hp, sei_fr (fun k => sk_pool 26 k (by omega)) (fun k => sk_pool 27 k (by omega)) (fun k => sk_pool 44 k (by omega)) (fun k => sk_pool 45 k (by omega)) ⟨rfl, rfl⟩ hF hS⟩
theorem dac_fr {s g n : Nat} {z z' : St} {S : Nat → Nat → Bool} (h1 : ∀ k, S 25 k = false) (h2 : S 31 23 = false ∧ S 31 24 = false ∧ S 31 25 = false ∧ S 31 26 = false ∧ S 31 27 = false ∧ S 31 28 = false ∧ S 31 29 = false ∧ S 31 30 = false) (hF : Fz S z z') (h : DAC s g n z) : DAC s g n z' := by
  obtain ⟨a0, a1, a2, a3, a4, a5, a6, a7, a8, a9, a10, a11, a12, a13, a14, a15⟩ := h
  obtain ⟨b23, b24, b25, b26, b27, b28, b29, b30⟩ := h2
  refine ⟨(hF 25 0 (h1 0)).1.trans a0, a1, a2, (hF 25 2 (h1 2)).1.trans a3, (hF 31 23 b23).1.trans a4, a5, (hF 25 3 (h1 3)).2.trans a6, (hF 31 26 b26).2.trans a7, a8, a9, a10, (hF 25 4 (h1 4)).2.trans a11, (hF 31 28 b28).2.trans a12, (hF 25 5 (h1 5)).1.trans a13, (hF 31 25 b25).1.trans a14, ?_⟩
  rcases a15 with ⟨c1, c2, t, v, c3, c4, c5, c6, c7, c8⟩ | ⟨c1, c2, v, c3, c4, c5⟩
  · exact Or.inl ⟨(hF 25 1 (h1 1)).1.trans c1, (hF 31 29 b29).1.trans c2, t, v, c3, c4, (hF 25 6 (h1 6)).1.trans c5, (hF 31 24 b24).1.trans c6, (hF 25 7 (h1 7)).2.trans c7, (hF 31 27 b27).2.trans c8⟩
  · exact Or.inr ⟨(hF 25 1 (h1 1)).1.trans c1, (hF 31 29 b29).1.trans c2, v, c3, (hF 25 7 (h1 7)).2.trans c4, (hF 31 30 b30).2.trans c5⟩
theorem did_fr {z z' : St} {S : Nat → Nat → Bool} (h1 : ∀ k, S 25 k = false) (h2 : S 31 23 = false ∧ S 31 29 = false) (hF : Fz S z z') (h : DID z) : DID z' :=
  ⟨(hF 25 0 (h1 0)).1.trans h.1, (hF 25 1 (h1 1)).1.trans h.2.1, (hF 31 23 h2.1).1.trans h.2.2.1, (hF 31 29 h2.2).1.trans h.2.2.2⟩
theorem dii_fr {A : Ab} {se : Nat → Nat} {sM gM : Nat} {z z' : St} (hF : Fz Sk z z') (h10 : z.1 0 10 = 1 → z'.1 0 10 = 1) (h : DII A se sM gM z) : DII A se sM gM z' := by
  rcases h with h | ⟨s, g, n, hd, hg⟩
  · exact Or.inl (did_fr (fun k => sk_pool 25 k (by omega)) ⟨rfl, rfl⟩ hF h)
  · refine Or.inr ⟨s, g, n, dac_fr (fun k => sk_pool 25 k (by omega)) ⟨rfl, rfl, rfl, rfl, rfl, rfl, rfl, rfl⟩ hF hd, ?_⟩
    rcases hg with ⟨a, b, c, d⟩ | ⟨a, b, c⟩
    · exact Or.inl ⟨(hF 31 19 rfl).1.trans a, h10 b, c, d⟩
    · exact Or.inr ⟨(hF 31 19 rfl).1.trans a, by rw [(hF 31 21 rfl).1]; exact b, c⟩
theorem tab_fr {S : Nat → Nat → Bool} {A : Ab} {z z' : St} (hS : S 9 10 = false ∧ S 9 11 = false ∧ (∀ k, S 10 k = false) ∧ (∀ k, S 11 k = false) ∧ (∀ k, S 12 k = false) ∧ (∀ k, S 13 k = false) ∧ (∀ k, S 14 k = false) ∧ ∀ k, S 17 k = false) (hF : Fz S z z') (h : TAB A z) : TAB A z' := by
  obtain ⟨⟨e9, e11, hlen, e17, e10, hL⟩, hA⟩ := h
  obtain ⟨s910, s911, s10, s11, s12, s13, s14, s17⟩ := hS
  refine ⟨⟨(hF 9 10 s910).1.trans e9, (hF 9 11 s911).1.trans e11, hlen, fun m hm => (hF 17 m (s17 m)).1.trans (e17 m hm), fun i hi => (hF 10 i (s10 i)).2.trans (e10 i hi), fun m s hm h1 h2 => ?_⟩, fun m i a1 a2 a3 a4 => (hF 14 i (s14 i)).2.trans (hA m i a1 a2 a3 a4)⟩
  obtain ⟨l11, ⟨i0, hi0, ei0, l12⟩, lnx⟩ := hL m s hm h1 h2
  refine ⟨(hF 11 s (s11 s)).1.trans l11, ⟨i0, hi0, ei0, (hF 12 s (s12 s)).1.trans l12⟩, fun j hj i hi ei => ?_⟩
  obtain ⟨i', hi', ei', e13⟩ := lnx j hj i hi ei
  exact ⟨i', hi', ei', (hF 13 i (s13 i)).1.trans e13⟩
theorem tok_fr {S : Nat → Nat → Bool} {A : Ab} {z z' : St} (hS : S 9 10 = false ∧ S 9 11 = false ∧ (∀ k, S 10 k = false) ∧ (∀ k, S 11 k = false) ∧ (∀ k, S 12 k = false) ∧ (∀ k, S 13 k = false) ∧ (∀ k, S 14 k = false) ∧ ∀ k, S 17 k = false) (hF : Fz S z z') (h : TOK A z) : TOK A z' := by
  rcases h with ⟨a, b⟩ | ⟨a, b, c⟩
  · exact Or.inl ⟨(hF 9 11 hS.2.1).1.trans a, b⟩
  · exact Or.inr ⟨(hF 9 11 hS.2.1).1.trans a, b, tab_fr hS hF c⟩
theorem bh_fr {S : Nat → Nat → Bool} {A : Ab} {z z' : St} (hS : S 9 12 = false ∧ ∀ k, S 15 k = false) (hF : Fz S z z') (h : BH A z) : BH A z' := by
  rcases h with h | ⟨h, bh, h1, h2, h3⟩
  · exact Or.inl ((hF 9 12 hS.1).1.trans h)
  · exact Or.inr ⟨(hF 9 12 hS.1).1.trans h, bh, fun i hi => (hF 15 i (hS.2 i)).2.trans (h1 i hi), h2, h3⟩
theorem tci_fr {S : Nat → Nat → Bool} {A : Ab} {z z' : St} (h0 : S 0 10 = false) (hS : ∀ c k, 9 ≤ c → c ≤ 17 → S c k = false) (hF : Fz S z z') (h : TCI A z) : TCI A z' := by
  rcases h with h | ⟨a, b, c⟩
  · exact Or.inl ((hF 0 10 h0).1.trans h)
  · refine Or.inr ⟨(hF 0 10 h0).1.trans a, tok_fr ⟨hS 9 10 (by decide) (by decide), hS 9 11 (by decide) (by decide), fun k => hS 10 k (by decide) (by decide), fun k => hS 11 k (by decide) (by decide), fun k => hS 12 k (by decide) (by decide), fun k => hS 13 k (by decide) (by decide), fun k => hS 14 k (by decide) (by decide), fun k => hS 17 k (by decide) (by decide)⟩ hF b, ?_⟩
    rcases c with c | c
    · exact Or.inl ((hF 9 11 (hS 9 11 (by decide) (by decide))).1.trans c)
    · exact Or.inr (bh_fr ⟨hS 9 12 (by decide) (by decide), fun k => hS 15 k (by decide) (by decide)⟩ hF c)
theorem rci_fr {S : Nat → Nat → Bool} {A : Ab} {z z' : St} (h0 : S 31 11 = false ∧ S 31 12 = false ∧ S 31 13 = false) (hS : ∀ c k, 39 ≤ c → c ≤ 43 → S c k = false) (hF : Fz S z z') (h : RCI A z) : RCI A z' := by
  rcases h with h | ⟨a, b⟩
  · exact Or.inl ((hF 31 11 h0.1).1.trans h)
  · exact Or.inr ⟨(hF 31 11 h0.1).1.trans a, rok_fr ⟨h0.2.2, h0.2.1, fun k => hS 40 k (by decide) (by decide), fun k => hS 42 k (by decide) (by decide), fun k => hS 43 k (by decide) (by decide)⟩ ⟨fun k => hS 39 k (by decide) (by decide), fun k => hS 41 k (by decide) (by decide)⟩ hF b⟩
theorem cci_fr {S : Nat → Nat → Bool} {A : Ab} {z z' : St} (h0 : S 0 11 = false) (hS : ∀ c k, c = 20 ∨ c = 24 → S c k = false) (hF : Fz S z z') (h : CCI A z) : CCI A z' := by
  rcases h with h | ⟨a, b, c⟩
  · exact Or.inl ((hF 0 11 h0).1.trans h)
  · exact Or.inr ⟨(hF 0 11 h0).1.trans a, (hF 20 5 (hS 20 5 (Or.inl rfl))).1.trans b, fun h => ⟨(hF 20 4 (hS 20 4 (Or.inl rfl))).1.trans (c h).1, fun i hi => (hF 24 i (hS 24 i (Or.inr rfl))).1.trans ((c h).2 i hi)⟩⟩
/-- cells that nothing of this speaks of -/
abbrev Sq : Nat → Nat → Bool := fun c k => (decide (28 ≤ c) && decide (c ≤ 30)) || ((decide (46 ≤ c) && decide (c ≤ 49)) || (c == 31 && (k == 0 || k == 34)))
theorem sq_f (c k : Nat) (h : c < 28 ∨ (30 < c ∧ c < 46 ∧ c ≠ 31)) : Sq c k = false := by
  simp only [Bool.or_eq_false_iff, Bool.and_eq_false_iff, decide_eq_false_iff_not, beq_eq_false_iff_ne]
  exact ⟨by omega, by omega, Or.inl (by omega)⟩
theorem sq_sk (c k : Nat) (e : Sk c k = false) : Sq c k = false := by
  simp only [Bool.or_eq_false_iff, Bool.and_eq_false_iff, decide_eq_false_iff_not, beq_eq_false_iff_ne] at e ⊢
  obtain ⟨_, _, h3, _, h5, _, h7⟩ := e
  exact ⟨h3, h5, h7.imp id (fun h => ⟨h.1, h.2.2.2.2⟩)⟩
theorem iv_fr {A : Ab} {se : Nat → Nat} {sM gM : Nat} {z z' : St} (hF : Fz Sq z z') (h : IV A se sM gM z) : IV A se sM gM z' := by
  obtain ⟨hB, h17, hD, hT, hR, hC⟩ := h
  have hk := fz_mono hF sq_sk
  exact ⟨bas_fr hk hB, (hF 17 0 rfl).1.trans h17, dii_fr hk (fun h => (hF 0 10 rfl).1.trans h) hD, tci_fr rfl (fun c k h1 h2 => sq_f c k (by omega)) hF hT, rci_fr ⟨rfl, rfl, rfl⟩ (fun c k h1 h2 => sq_f c k (by omega)) hF hR, cci_fr rfl (fun c k h => sq_f c k (by omega)) hF hC⟩
theorem inv_fr {z z' : St} (hF : Fz Sq z z') (h : Inv z) : Inv z' := by
  obtain ⟨A, se, sM, gM, h⟩ := h
  exact ⟨A, se, sM, gM, iv_fr hF h⟩
theorem sei_dr {A : Ab} {se : Nat → Nat} {sM gM : Nat} {z : St} (hW : WF A) (h : SEI A se sM gM z) : DR z := by
  rcases h with ⟨a, b, c, d, e, f, g⟩ | ⟨a, b, c, d, e⟩
  · exact Or.inl ⟨by rw [a]; decide, e⟩
  · refine Or.inr ⟨?_, by rw [a]; decide⟩
    have := hW.2.2.2.2.2.2.1
    have := hW.2.2.2.2.2.2.2
    rw [c.1, show (0 : Int32) = jI 0 from rfl, jI_le (by omega) (by decide)]; omega
