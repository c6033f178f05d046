/-! REAL VALUES 6: topping up, whole -/
theorem to_r {n : Nat} {zs : Nat → Int32} {lam : Rat} (hz : ∀ i, i < n → ZB (zs i)) (hn : n ≤ 8) (hl0 : eta * 1606938044258990275541962092341162602522202993782792835301376 ≤ lam) (hl1 : lam ≤ 1) : ∀ (k m : Nat) (h : Nat → UInt64) (M : Rat), (k = 0 ∨ k < n) → m + k ≤ 800 → HB m n h → EZ n h → (∀ j, j < k → (h j).toNat = 0 ∨ lam ≤ rv (h j)) → (∀ j, j < n → (h j).toNat = 0 ∨ lam / 4 ≤ rv (h j)) → 0 ≤ M → M + ((k : Nat) : Rat) / 1099511627776 ≤ 200 → (∀ j, j < n → rv (h (8 + j)) ≤ M) →
    HB (m + k) n (toH zs k h) ∧ EZ n (toH zs k h) ∧ (∀ j, j < n → (toH zs k h j).toNat = 0 ∨ lam / 4 ≤ rv (toH zs k h j)) ∧ (∀ j, j < n → rv (toH zs k h (8 + j)) ≤ M + ((k : Nat) : Rat) / 1099511627776) ∧
    (SL (toH zs k h) n ≤ SL h n + 2 * (((k : Nat) : Rat) * SL h n) / 4503599627370496 ∧ SL h n - 2 * (((k : Nat) : Rat) * SL h n) / 4503599627370496 ≤ SL (toH zs k h) n) ∧
    (∀ f, (f = 8 ∨ f = 16 ∨ f = 24) → PL f (toH zs k h) n ≤ PL f h n + 8 * (((k : Nat) : Rat) * PL f h n) / 4503599627370496 + 2000 * ((k : Nat) : Rat) * eta ∧ PL f h n - 8 * (((k : Nat) : Rat) * PL f h n) / 4503599627370496 - 2000 * ((k : Nat) : Rat) * eta ≤ PL f (toH zs k h) n) := by
  intro k
  induction k with
  | zero =>
    intro m h M _ _ hb hE _ hW2 hM0 hM hA
    have h0 : ((0 : Nat) : Rat) = 0 := rfl
    rw [h0]
    show HB m n h ∧ EZ n h ∧ _
    refine ⟨hb, hE, hW2, fun j hj => ?_, ?_, fun f hf => ?_⟩
    · have := hA j hj
      show rv (h (8 + j)) ≤ _
      grind
    · show SL h n ≤ _ ∧ _ ≤ SL h n
      constructor <;> grind
    · show PL f h n ≤ _ ∧ _ ≤ PL f h n
      constructor <;> grind
  | succ k ih =>
    intro m h M hk hm hb hE hW1 hW2 hM0 hM hA
    have hk : k + 1 < n := hk.resolve_left (by omega)
    have hk1 : ((k + 1 : Nat) : Rat) = ((k : Nat) : Rat) + 1 := by
      rw [Rat.natCast_add]; rfl
    rw [hk1] at hM ⊢
    have hkr := kr_le (k := k) (by omega)
    obtain ⟨p1, p2, p3, p4, p5, p6⟩ := pa_step (hz (k + 1) hk) hk hn (by omega) hb hE hl0 hl1 (hW1 k (by omega)) hW2 hM0 (by
      have := hkr.1
      grind) hA
    have hb1 := pa_HB (hz (k + 1) hk) hk hn (by omega) hb
    obtain ⟨i0, i1, i2, i3, i4, i5⟩ := ih (m + 1) (paH zs h k) (M + 1 / 1099511627776) (Or.inr (by omega)) (by omega) hb1 p1 (fun j hj => by rw [p3 j hj]; exact hW1 j (by omega)) p2 (by grind) (by grind) p4
    show HB (m + (k + 1)) n (toH zs k (paH zs h k)) ∧ EZ n (toH zs k (paH zs h k)) ∧ (∀ j, j < n → (toH zs k (paH zs h k) j).toNat = 0 ∨ lam / 4 ≤ rv (toH zs k (paH zs h k) j)) ∧ (∀ j, j < n → rv (toH zs k (paH zs h k) (8 + j)) ≤ M + (((k : Nat) : Rat) + 1) / 1099511627776) ∧ (SL (toH zs k (paH zs h k)) n ≤ _ ∧ _ ≤ SL (toH zs k (paH zs h k)) n) ∧ (∀ f, (f = 8 ∨ f = 16 ∨ f = 24) → PL f (toH zs k (paH zs h k)) n ≤ _ ∧ _ ≤ PL f (toH zs k (paH zs h k)) n)
    refine ⟨by rw [show m + (k + 1) = m + 1 + k by omega]; exact i0, i1, i2, fun j hj => ?_, ?_, fun f hf => ?_⟩
    · have := i3 j hj
      grind
    · have s0 := (SL_ge hb n (Nat.le_refl n)).1
      have s1 := (SL_ge hb1 n (Nat.le_refl n)).1
      have w1 := Rat.mul_le_mul_of_nonneg_left p5.1 hkr.1
      have w2 := Rat.mul_le_mul_of_nonneg_right hkr.2 s0
      have w3 := Rat.mul_nonneg hkr.1 s0
      have w4 := Rat.mul_nonneg hkr.1 s1
      generalize SL (toH zs k (paH zs h k)) n = S2 at *
      generalize SL (paH zs h k) n = S1 at *
      generalize SL h n = S0 at *
      generalize ((k : Nat) : Rat) = K at *
      clear p6 i5 i3 p4 ih hb hb1 hA hW1 hW2
      have m1 : K * (S0 + S0 / 4503599627370496) = K * S0 + K * S0 / 4503599627370496 := by grind
      have m2 : (K + 1) * S0 = K * S0 + S0 := by grind
      rw [m1] at w1
      rw [m2]
      generalize K * S0 = KS0 at *
      generalize K * S1 = KS1 at *
      constructor <;> grind
    · have q5 := p6 f hf
      have q6 := i5 f hf
      have s0 := (PL_two (f := f) hb (fun i hi => (hb.f hf i hi).1.nn)).1
      have s1 := (PL_two (f := f) hb1 (fun i hi => (hb1.f hf i hi).1.nn)).1
      have et := eta_pos
      have w1 := Rat.mul_le_mul_of_nonneg_left q5.1 hkr.1
      have w2 := Rat.mul_le_mul_of_nonneg_right hkr.2 s0
      have w3 := Rat.mul_nonneg hkr.1 s0
      have w4 := Rat.mul_nonneg hkr.1 s1
      have w5 := Rat.mul_le_mul_of_nonneg_right hkr.2 (Rat.le_of_lt et)
      have w6 := Rat.mul_nonneg hkr.1 (Rat.le_of_lt et)
      generalize PL f (toH zs k (paH zs h k)) n = S2 at *
      generalize PL f (paH zs h k) n = S1 at *
      generalize PL f h n = S0 at *
      generalize ((k : Nat) : Rat) = K at *
      generalize eta = t at *
      clear p6 i5 i3 p4 ih hb hb1 hA hW1 hW2 p5 i4
      have m1 : K * (S0 + 4 * S0 / 4503599627370496 + 1000 * t) = K * S0 + 4 * (K * S0) / 4503599627370496 + 1000 * (K * t) := by grind
      have m2 : (K + 1) * S0 = K * S0 + S0 := by grind
      have m3 : 2000 * (K + 1) * t = 2000 * (K * t) + 2000 * t := by grind
      have m4 : 2000 * K * t = 2000 * (K * t) := by grind
      rw [m1] at w1
      rw [m4] at q6
      rw [m2, m3]
      generalize K * S0 = KS0 at *
      generalize K * S1 = KS1 at *
      generalize K * t = Kt at *
      constructor <;> grind
/-- what becomes of the first barrel, and the sum that is told -/
theorem to_0 {n : Nat} {zs : Nat → Int32} (hz : ∀ i, i < n → ZB (zs i)) (hn : n ≤ 8) : ∀ (k m : Nat) (h : Nat → UInt64) (sum : UInt64) (j : Nat), (k = 0 ∨ k < n) → m + k ≤ 800 → HB m n h → BD (1081 + j) sum → j + k ≤ 100 →
    BD (1081 + j + k) (toS zs k h sum) ∧ rv sum ≤ rv (toS zs k h sum) ∧ (toH zs k h (8 + 0) = h (8 + 0) ∧ toH zs k h (16 + 0) = h (16 + 0) ∧ toH zs k h (24 + 0) = h (24 + 0)) ∧
    (toH zs k h 0 = h 0 ∨ ∃ g, LB g ∧ 0 < g.toNat ∧ g.toNat < (h 0).toNat ∧ rv g ≤ rv (toS zs k h sum) ∧ toH zs k h 0 = FP.dsub (h 0) g) := by
  intro k
  induction k with
  | zero => exact fun m h sum j _ _ hb hs _ => ⟨hs, Rat.le_refl, ⟨rfl, rfl, rfl⟩, Or.inl rfl⟩
  | succ k ih =>
    intro m h sum j hk hm hb hs hj
    have hk : k + 1 < n := hk.resolve_left (by omega)
    have h1 := (hb.2 k (by omega)).1
    have h2 := (hb.2 (k + 1) hk).1
    have hb1 := pa_HB (hz (k + 1) hk) hk hn (by omega) hb
    obtain ⟨a1, a2, a3, a4, a5, a6, a7⟩ := goe_ok (hz (k + 1) hk) h1 h2
    -- the sum
    obtain ⟨s1, s2, s3⟩ : BD (1081 + (j + 1)) (paS zs h k sum) ∧ rv sum ≤ rv (paS zs h k sum) ∧ (FP.dcmp (paG zs h k) 0 = some .gt → rv (paG zs h k) ≤ rv (paS zs h k sum)) := by
      unfold paS
      by_cases hg : FP.dcmp (paG zs h k) 0 = some .gt
      · rw [if_pos hg]
        obtain ⟨g0, g1, g2, g3⟩ := a6 hg
        have gb : BD 1081 (paG zs h k) := ⟨nf_100 g1, Nat.le_trans (ud_le100 g1) (by decide +kernel)⟩
        have b := bd_add hs (gb.mono (show 1081 ≤ 1081 + j by omega)) (by omega)
        refine ⟨b, (rv_leN hs.1.nn b.1.nn).mpr (dadd_geL hs.1 gb.1), fun _ => (rv_leN gb.1.nn b.1.nn).mpr (dadd_geR hs.1 gb.1)⟩
      · rw [if_neg hg]
        exact ⟨hs.mono (by omega), Rat.le_refl, fun h9 => absurd h9 hg⟩
    obtain ⟨i1, i2, i3, i4⟩ := ih (m + 1) (paH zs h k) (paS zs h k sum) (j + 1) (Or.inr (by omega)) (by omega) hb1 s1 (by omega)
    show BD (1081 + j + (k + 1)) (toS zs k (paH zs h k) (paS zs h k sum)) ∧ rv sum ≤ rv (toS zs k (paH zs h k) (paS zs h k sum)) ∧ (toH zs k (paH zs h k) (8 + 0) = h (8 + 0) ∧ toH zs k (paH zs h k) (16 + 0) = h (16 + 0) ∧ toH zs k (paH zs h k) (24 + 0) = h (24 + 0)) ∧ (toH zs k (paH zs h k) 0 = h 0 ∨ ∃ g, LB g ∧ 0 < g.toNat ∧ g.toNat < (h 0).toNat ∧ rv g ≤ rv (toS zs k (paH zs h k) (paS zs h k sum)) ∧ toH zs k (paH zs h k) 0 = FP.dsub (h 0) g)
    refine ⟨by rw [show 1081 + j + (k + 1) = 1081 + (j + 1) + k by omega]; exact i1, Rat.le_trans s2 i2, ?_, ?_⟩
    · by_cases hg : FP.dcmp (paG zs h k) 0 = some .gt
      · have e : paH zs h k = _ := if_pos hg
        have o : paH zs h k (8 + 0) = h (8 + 0) ∧ paH zs h k (16 + 0) = h (16 + 0) ∧ paH zs h k (24 + 0) = h (24 + 0) := by
          rw [e]
          by_cases k0 : k = 0
          · subst k0
            exact ⟨hset_b.2.1, hset_b.2.2.1, hset_b.2.2.2⟩
          · refine ⟨?_, ?_, ?_⟩
            · rw [hset_ne1 (by omega) (by omega) (by omega) (Or.inl rfl), hset_ne1 (by omega) (by omega) (by omega) (Or.inl rfl)]
            · rw [hset_ne1 (by omega) (by omega) (by omega) (Or.inr (Or.inl rfl)), hset_ne1 (by omega) (by omega) (by omega) (Or.inr (Or.inl rfl))]
            · rw [hset_ne1 (by omega) (by omega) (by omega) (Or.inr (Or.inr rfl)), hset_ne1 (by omega) (by omega) (by omega) (Or.inr (Or.inr rfl))]
        rw [i3.1, i3.2.1, i3.2.2]
        exact o
      · have e : paH zs h k = h := if_neg hg
        rw [e] at i3
        rw [e]
        exact i3
    · by_cases k0 : k = 0
      · subst k0
        show paH zs h 0 0 = h 0 ∨ ∃ g, LB g ∧ 0 < g.toNat ∧ g.toNat < (h 0).toNat ∧ rv g ≤ rv (paS zs h 0 sum) ∧ paH zs h 0 0 = FP.dsub (h 0) g
        by_cases hg : FP.dcmp (paG zs h 0) 0 = some .gt
        · obtain ⟨g0, g1, g2, g3⟩ := a6 hg
          have e : paH zs h 0 = _ := if_pos hg
          refine Or.inr ⟨paG zs h 0, lb_100 g1, g0, g3, s3 hg, ?_⟩
          rw [e]
          exact hset_b.1
        · exact Or.inl (by rw [show paH zs h 0 = h from if_neg hg])
      · have o : paH zs h k 0 = h 0 := by
          by_cases hg : FP.dcmp (paG zs h k) 0 = some .gt
          · have e : paH zs h k = _ := if_pos hg
            rw [e, hset_ne (by omega) (by omega) (by omega), hset_ne (by omega) (by omega) (by omega)]
          · rw [show paH zs h k = h from if_neg hg]
        rw [o] at i4
        exact i4
