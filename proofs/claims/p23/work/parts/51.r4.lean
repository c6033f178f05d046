/-! REAL VALUES 5: topping up -/
def EZ (n : Nat) (h : Nat → UInt64) : Prop := ∀ i, i < n → (h i).toNat = 0 → h (8 + i) = 0 ∧ h (16 + i) = 0 ∧ h (24 + i) = 0
theorem HB.f {m n f : Nat} {h : Nat → UInt64} (hb : HB m n h) (hf : f = 8 ∨ f = 16 ∨ f = 24) : ∀ i, i < n → VB m (h (f + i)) := fun i hi => by
  obtain ⟨-, h1, h2, h3⟩ := hb.2 i hi
  rcases hf with rfl | rfl | rfl
  · exact h1
  · exact h2
  · exact h3
theorem half_v : rv 4602678819172646912 = 1 / 2 := by
  have h := rv_half
  generalize rv 4602678819172646912 = z at *
  grind
theorem eight_v : rv 4620693217682128896 = 8 := by
  have h := rv_c (x := 4620693217682128896) 8 1074 0 1 (by unfold NN; decide +kernel) (by decide) (by decide +kernel) (by decide)
  simpa using h
theorem bd_half : BD 1074 4602678819172646912 := ⟨nf_half, by decide +kernel⟩
theorem full_all : ∀ k : Fin 101, 10 ≤ k.val → 4620693217682128896 ≤ (full (nI k.val)).toNat := by decide +kernel
theorem full_ge {z : Int32} (hz : ZB z) : BD 1082 (full z) ∧ 8 ≤ rv (full z) := by
  obtain ⟨k, h1, h2, rfl⟩ := hz
  have h3 := (sz_d h2).2
  have h4 := full_all ⟨k, by omega⟩ h1
  have h5 := lb_100 h3
  refine ⟨h5.bd, ?_⟩
  rw [← eight_v]
  exact (rv_leN (by unfold NN; decide +kernel) h5.nf.nn).mpr h4
theorem rv_pos {x : UInt64} (hx : NN x) : 0 < rv x ↔ 0 < x.toNat := by
  have h := rv_ltN nn_r0 hx
  rw [rv_zero] at h
  exact h
theorem toNat_0 {x : UInt64} (h : x.toNat = 0) : x = 0 := UInt64.toNat_inj.mp h
/-- what goes from barrel k to barrel k + 1, in values -/
theorem pa_g {m n : Nat} {zs : Nat → Int32} {h : Nat → UInt64} {k : Nat} {lam : Rat} (hz : ZB (zs (k + 1))) (hk : k + 1 < n) (hb : HB m n h) (hl0 : eta * 1606938044258990275541962092341162602522202993782792835301376 ≤ lam) (hl1 : lam ≤ 1) (hW1 : (h k).toNat = 0 ∨ lam ≤ rv (h k)) (hg : FP.dcmp (paG zs h k) 0 = some .gt) :
    LB (paG zs h k) ∧ 0 < (paG zs h k).toNat ∧ (paG zs h k).toNat < (h k).toNat ∧ 0 < rv (paG zs h k) ∧ lam ≤ rv (h k) ∧ 2 * rv (paG zs h k) ≤ rv (h k) + rv (h k) / 1125899906842624 ∧ ((h (k + 1)).toNat = 0 → lam / 4 ≤ rv (paG zs h k)) := by
  have h1 := (hb.2 k (by omega)).1
  have h2 := (hb.2 (k + 1) hk).1
  obtain ⟨a1, a2, a3, a4, a5, a6, a7⟩ := goe_ok hz h1 h2
  obtain ⟨g0, g1, g2, g3⟩ := a6 hg
  have hgl : LB (paG zs h k) := lb_100 g1
  have hl : lam ≤ rv (h k) := hW1.resolve_left (fun h9 => by
    have : (goev (zs (k + 1)) (h (k + 1)) (h k)).toNat < 0 := by rw [← h9]; exact g3
    omega)
  have b1 := bd_mul bd_half h1.bd (by decide) (by decide)
  have e1 := mul_err nf_half h1.nf (bd_r b1 (by decide))
  rw [half_v] at e1
  have et := eta_pos
  have l0 := h1.r
  have f0 := full_ge hz
  have hor := lesv_or (FP.dsub (full (zs (k + 1))) (h (k + 1))) (FP.dmul 4602678819172646912 (h k))
  have hle : rv (paG zs h k) ≤ rv (FP.dmul 4602678819172646912 (h k)) := by
    show rv (lesv _ _) ≤ _
    unfold lesv
    have hn1 := (FP.Core.notNaN_iff _).mp (FP.Core.dsub_out f0.1.1.fin.notNaN h2.nf.fin)
    by_cases c : FP.dcmp (FP.dsub (FP.dmul 4606281698874543309 (FP.i2d (zs (k + 1)))) (h (k + 1))) (FP.dmul 4602678819172646912 (h k)) = some .lt
    · rw [if_pos c]
      exact Rat.le_of_lt ((cmp_rv hn1 b1.1.nn.ne).1.mp c)
    · rw [if_neg c]
      exact Rat.le_refl
  refine ⟨hgl, g0, g3, (rv_pos hgl.nf.nn).mpr g0, hl, ?_, fun hz0 => ?_⟩
  · generalize rv (paG zs h k) = g at *
    generalize rv (FP.dmul 4602678819172646912 (h k)) = B at *
    generalize rv (h k) = l at *
    generalize eta = t at *
    clear a1 a2 a3 a4 a5 a6 a7 hb h1 h2
    grind
  · have e2 : h (k + 1) = 0 := toNat_0 hz0
    have e3 : paG zs h k = FP.dsub (full (zs (k + 1))) (h (k + 1)) ∨ paG zs h k = FP.dmul 4602678819172646912 (h k) := hor
    rcases e3 with e3 | e3
    · rw [e3, e2]
      have s := sub_err f0.1.1 nf_0 (Nat.zero_le _) (bd_r f0.1 (by decide))
      rw [rv_zero] at s
      have s2 := s.2.2
      have f1 := f0.2
      generalize rv (FP.dsub (full (zs (k + 1))) 0) = q at *
      generalize rv (full (zs (k + 1))) = F at *
      clear a1 a2 a3 a4 a5 a6 a7 hb h1 h2 s e1
      grind
    · rw [e3]
      generalize rv (FP.dmul 4602678819172646912 (h k)) = B at *
      generalize rv (h k) = l at *
      generalize eta = t at *
      clear a1 a2 a3 a4 a5 a6 a7 hb h1 h2
      grind
theorem pa_HB {m n : Nat} {zs : Nat → Int32} {h : Nat → UInt64} {k : Nat} (hz : ZB (zs (k + 1))) (hk : k + 1 < n) (hn : n ≤ 8) (hm : m ≤ 800) (hb : HB m n h) : HB (m + 1) n (paH zs h k) := by
  obtain ⟨b0, b1, b2⟩ := pa_BB hz hk hn hm hb.1 (fun j hj => hb.2 j (by omega)) (fun j hj => (hb.2 j hj).mono (by omega))
  exact ⟨b0, b2⟩
/-- the numbers of one step -/
theorem pa_step {m n : Nat} {zs : Nat → Int32} {h : Nat → UInt64} {k : Nat} {lam M : Rat} (hz : ZB (zs (k + 1))) (hk : k + 1 < n) (hn : n ≤ 8) (hm : m ≤ 800) (hb : HB m n h) (hE : EZ n h) (hl0 : eta * 1606938044258990275541962092341162602522202993782792835301376 ≤ lam) (hl1 : lam ≤ 1) (hW1 : (h k).toNat = 0 ∨ lam ≤ rv (h k)) (hW2 : ∀ j, j < n → (h j).toNat = 0 ∨ lam / 4 ≤ rv (h j)) (hM0 : 0 ≤ M) (hM : M ≤ 200) (hA : ∀ j, j < n → rv (h (8 + j)) ≤ M) :
    EZ n (paH zs h k) ∧ (∀ j, j < n → (paH zs h k j).toNat = 0 ∨ lam / 4 ≤ rv (paH zs h k j)) ∧ (∀ j, j < k → paH zs h k j = h j) ∧ (∀ j, j < n → rv (paH zs h k (8 + j)) ≤ M + 1 / 1099511627776) ∧
    (SL (paH zs h k) n ≤ SL h n + SL h n / 4503599627370496 ∧ SL h n - SL h n / 4503599627370496 ≤ SL (paH zs h k) n) ∧
    (∀ f, (f = 8 ∨ f = 16 ∨ f = 24) → PL f (paH zs h k) n ≤ PL f h n + 4 * PL f h n / 4503599627370496 + 1000 * eta ∧ PL f h n - 4 * PL f h n / 4503599627370496 - 1000 * eta ≤ PL f (paH zs h k) n) := by
  have et := eta_pos
  by_cases hg : FP.dcmp (paG zs h k) 0 = some .gt
  · obtain ⟨g1, g2, g3, g4, g5, g6, g7⟩ := pa_g hz hk hb hl0 hl1 hW1 hg
    have h1 := (hb.2 k (by omega)).1
    have h2 := (hb.2 (k + 1) hk).1
    have s1 := sub_err h1.nf g1.nf (Nat.le_of_lt g3) (bd_r h1.bd (by decide))
    have sp := dsub_pos h1.nf g1.nf g3
    have r1 := h1.r
    have r2 := h2.r
    have mx : ∀ f, (f = 8 ∨ f = 16 ∨ f = 24) → _ := fun f hf => mix_r (v := h (k + 1)) (w := paG zs h k) h2 g1 g2 (hb.f hf (k + 1) hk) (hb.f hf k (by omega)) hm
    have hN := mx 8 (Or.inl rfl)
    have hNp : 0 < (FP.dadd (h (k + 1)) (paG zs h k)).toNat := Nat.lt_of_lt_of_le g2 (dadd_geR h2.nf g1.nf)
    have e : paH zs h k = _ := if_pos hg
    have kk : k < 8 := by omega
    have kk1 : k + 1 < 8 := by omega
    -- the table behind it
    have v0 : paH zs h k k = FP.dsub (h k) (paG zs h k) := by rw [e]; exact hset_b.1
    have v1 : paH zs h k (k + 1) = FP.dadd (h (k + 1)) (paG zs h k) := by rw [e, hset_ne kk kk1 (by omega)]; exact hset_b.1
    have vj : ∀ j, j < 8 → j ≠ k → j ≠ k + 1 → paH zs h k j = h j ∧ paH zs h k (8 + j) = h (8 + j) ∧ paH zs h k (16 + j) = h (16 + j) ∧ paH zs h k (24 + j) = h (24 + j) := fun j hj a b => by
      rw [e]
      refine ⟨?_, ?_, ?_, ?_⟩
      · rw [hset_ne kk hj a, hset_ne kk1 hj b]
      · rw [hset_ne1 kk hj a (Or.inl rfl), hset_ne1 kk1 hj b (Or.inl rfl)]
      · rw [hset_ne1 kk hj a (Or.inr (Or.inl rfl)), hset_ne1 kk1 hj b (Or.inr (Or.inl rfl))]
      · rw [hset_ne1 kk hj a (Or.inr (Or.inr rfl)), hset_ne1 kk1 hj b (Or.inr (Or.inr rfl))]
    have a0 : paH zs h k (8 + k) = h (8 + k) := by rw [e]; exact hset_b.2.1
    have a1 : paH zs h k (8 + (k + 1)) = mixv (h (k + 1)) (h (8 + (k + 1))) (paG zs h k) (h (8 + k)) := by rw [e, hset_ne1 kk kk1 (by omega) (Or.inl rfl)]; exact hset_b.2.1
    refine ⟨fun j hj hz0 => ?_, fun j hj => ?_, fun j hj => (vj j (by omega) (by omega) (by omega)).1, fun j hj => ?_, ?_, fun f hf => ?_⟩
    · by_cases c1 : j = k
      · subst c1
        rw [v0] at hz0
        omega
      · by_cases c2 : j = k + 1
        · subst c2
          rw [v1] at hz0
          omega
        · obtain ⟨q0, q1, q2, q3⟩ := vj j (by omega) c1 c2
          rw [q0] at hz0
          rw [q1, q2, q3]
          exact hE j hj hz0
    · by_cases c1 : j = k
      · subst c1
        rw [v0]
        refine Or.inr ?_
        have q := s1.2.2
        generalize rv (FP.dsub (h j) (paG zs h j)) = z at *
        generalize rv (h j) = l at *
        generalize rv (paG zs h j) = g at *
        clear s1 mx hN hb hA hW2 hE vj
        grind
      · by_cases c2 : j = k + 1
        · subst c2
          rw [v1]
          refine Or.inr ?_
          have q := hN.2.1.2
          have hw := hW2 (k + 1) hk
          have q2 := rv_leN h2.nf.nn hN.1.nn
          have q3 := q2.mpr (dadd_geL h2.nf g1.nf)
          have q4 := (rv_leN g1.nf.nn hN.1.nn).mpr (dadd_geR h2.nf g1.nf)
          rcases hw with hw | hw
          · exact Rat.le_trans (g7 hw) q4
          · exact Rat.le_trans hw q3
        · rw [(vj j (by omega) c1 c2).1]
          exact hW2 j hj
    · by_cases c1 : j = k
      · subst c1
        rw [a0]
        have := hA j hj
        grind
      · by_cases c2 : j = k + 1
        · subst c2
          rw [a1]
          have q := hN.2.2.1
          have qn := hN.2.1.2
          have np := (rv_pos hN.1.nn).mpr hNp
          have x1 := hA k (by omega)
          have x2 := hA (k + 1) hk
          have w1 := Rat.mul_le_mul_of_nonneg_left x2 r2.1
          have w2 := Rat.mul_le_mul_of_nonneg_left x1 (Rat.le_of_lt g4)
          have w3 := Rat.mul_le_mul_of_nonneg_left qn hM0
          have w4 := Rat.mul_le_mul_of_nonneg_left hM r2.1
          have w5 := Rat.mul_le_mul_of_nonneg_left hM (Rat.le_of_lt g4)
          have hV : lam / 4 ≤ rv (h (k + 1)) + rv (paG zs h k) := by
            rcases hW2 (k + 1) hk with hw | hw
            · have := g7 hw
              have := r2.1
              grind
            · grind
          refine Rat.le_of_mul_le_mul_right (c := rv (FP.dadd (h (k + 1)) (paG zs h k))) ?_ np
          generalize rv (mixv (h (k + 1)) (h (8 + (k + 1))) (paG zs h k) (h (8 + k))) * rv (FP.dadd (h (k + 1)) (paG zs h k)) = ZN at *
          generalize rv (h (k + 1)) * rv (h (8 + (k + 1))) = X2 at *
          generalize rv (paG zs h k) * rv (h (8 + k)) = X1 at *
          generalize rv (FP.dadd (h (k + 1)) (paG zs h k)) = N at *
          generalize rv (h (k + 1)) = l2 at *
          generalize rv (paG zs h k) = g at *
          clear s1 mx hN hb hA hW2 hE vj hW1 g5 g6 g7
          have m1 : (M + 1 / 1099511627776) * N = M * N + N / 1099511627776 := by grind
          have m2 : M * ((l2 + g) - (l2 + g) / 4503599627370496) = (l2 * M + g * M) - (l2 * M + g * M) / 4503599627370496 := by grind
          rw [m1]
          rw [m2] at w3
          generalize M * N = MN at *
          generalize l2 * M = l2M at *
          generalize g * M = gM at *
          generalize eta = t at *
          grind
        · rw [(vj j (by omega) c1 c2).2.1]
          have := hA j hj
          grind
    · rw [e, SL_set n hn, SL_set n hn, if_pos (show k < n by omega), if_pos hk, hset_ne kk1 kk (by omega)]
      have q1 := s1.2
      have q2 := hN.2.1
      have two := SL_two hb k hk
      generalize rv (FP.dsub (h k) (paG zs h k)) = z1 at *
      generalize rv (FP.dadd (h (k + 1)) (paG zs h k)) = z2 at *
      generalize rv (h k) = l1 at *
      generalize rv (h (k + 1)) = l2 at *
      generalize rv (paG zs h k) = g at *
      generalize SL h n = S at *
      clear s1 mx hN hb hA hW2 hE vj hW1 g7
      constructor <;> grind
    · rw [e, PL_set kk hf n hn, PL_set kk1 hf n hn, if_pos (show k < n by omega), if_pos hk, hset_ne kk1 kk (by omega)]
      have o1 : hset h (k + 1) (FP.dadd (h (k + 1)) (paG zs h k)) (mixv (h (k + 1)) (h (8 + (k + 1))) (paG zs h k) (h (8 + k))) (mixv (h (k + 1)) (h (16 + (k + 1))) (paG zs h k) (h (16 + k))) (mixv (h (k + 1)) (h (24 + (k + 1))) (paG zs h k) (h (24 + k))) (f + (k + 1)) = mixv (h (k + 1)) (h (f + (k + 1))) (paG zs h k) (h (f + k)) := by
        rcases hf with rfl | rfl | rfl
        · exact hset_b.2.1
        · exact hset_b.2.2.1
        · exact hset_b.2.2.2
      have o2 : ∀ (h' : Nat → UInt64) (l : UInt64), hset h' k l (h (8 + k)) (h (16 + k)) (h (24 + k)) (f + k) = h (f + k) := fun h' l => by
        rcases hf with rfl | rfl | rfl
        · exact hset_b.2.1
        · exact hset_b.2.2.1
        · exact hset_b.2.2.2
      rw [o1, o2, hset_ne1 kk1 kk (by omega) hf]
      have q := (mx f hf).2.2
      have q1 := s1.2
      have hx0 := rv_0 (hb.f hf k (by omega)).1.nn
      have hy0 := rv_0 (hb.f hf (k + 1) hk).1.nn
      have two := (PL_two (f := f) hb (fun i hi => (hb.f hf i hi).1.nn)).2 k hk
      have w1 := Rat.mul_le_mul_of_nonneg_right q1.1 hx0
      have w2 := Rat.mul_le_mul_of_nonneg_right q1.2 hx0
      have w3 := Rat.mul_nonneg r2.1 hy0
      have w4 := Rat.mul_nonneg (Rat.le_of_lt g4) hx0
      have w5 := Rat.mul_nonneg r1.1 hx0
      have w6 := Rat.mul_le_mul_of_nonneg_right g6 hx0
      generalize rv (h (f + k)) = x at *
      generalize rv (h (f + (k + 1))) = y at *
      have qc : rv (FP.dadd (h (k + 1)) (paG zs h k)) * rv (mixv (h (k + 1)) (h (f + (k + 1))) (paG zs h k) (h (f + k))) = rv (mixv (h (k + 1)) (h (f + (k + 1))) (paG zs h k) (h (f + k))) * rv (FP.dadd (h (k + 1)) (paG zs h k)) := Rat.mul_comm _ _
      rw [qc]
      generalize rv (mixv (h (k + 1)) (h (f + (k + 1))) (paG zs h k) (h (f + k))) * rv (FP.dadd (h (k + 1)) (paG zs h k)) = ZN at *
      generalize rv (FP.dsub (h k) (paG zs h k)) = z1 at *
      generalize rv (h k) = l1 at *
      generalize rv (h (k + 1)) = l2 at *
      generalize rv (paG zs h k) = g at *
      generalize PL f h n = P at *
      clear s1 mx hN hb hA hW2 hE vj hW1 g7 o1 o2 q1
      have m1 : (l1 - g + (l1 - g) / 4503599627370496) * x = (l1 * x - g * x) + (l1 * x - g * x) / 4503599627370496 := by grind
      have m2 : (l1 - g - (l1 - g) / 4503599627370496) * x = (l1 * x - g * x) - (l1 * x - g * x) / 4503599627370496 := by grind
      have m3 : 2 * g * x = 2 * (g * x) := by grind
      have m4 : (l1 + l1 / 1125899906842624) * x = l1 * x + l1 * x / 1125899906842624 := by grind
      rw [m1] at w1
      rw [m2] at w2
      rw [m3, m4] at w6
      generalize z1 * x = z1x at *
      generalize l1 * x = l1x at *
      generalize g * x = gx at *
      generalize l2 * y = l2y at *
      generalize eta = t at *
      constructor <;> grind
  · have e : paH zs h k = h := if_neg hg
    rw [e]
    have s0 := SL_ge hb n (Nat.le_refl n)
    refine ⟨hE, hW2, fun _ _ => rfl, fun j hj => ?_, ?_, fun f hf => ?_⟩
    · have := hA j hj
      grind
    · have := s0.1
      constructor <;> grind
    · have := (PL_two (f := f) hb (fun i hi => (hb.f hf i hi).1.nn)).1
      constructor <;> grind
