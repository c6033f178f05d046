/-! REAL VALUES 8: whole numbers; what isFilled asks -/
theorem i2d_ud : ∀ k : Fin 1001, ud (FP.i2d (nI k.val)) = k.val * 2 ^ 1074 := by decide +kernel
theorem natU (k : Nat) : ((k * 2 ^ 1074 : Nat) : Rat) * eta = ((k : Nat) : Rat) := by
  have h := eta_QU
  rw [Rat.natCast_mul]
  have h1 : ((2 ^ 1074 : Nat) : Rat) = QU := rfl
  rw [h1]
  generalize ((k : Nat) : Rat) = K at *
  grind
theorem i2d_v {k : Nat} (hk : k ≤ 1000) : NF (FP.i2d (nI k)) ∧ rv (FP.i2d (nI k)) = ((k : Nat) : Rat) := by
  have h1 := i2d_nn hk
  have h2 := i2d_ud ⟨k, by omega⟩
  have h3 := i2d_all ⟨k, by omega⟩
  refine ⟨nf_le (v := 4652218415073722368) (by unfold NF; decide +kernel) h3, ?_⟩
  rw [rv_u h1, h2]
  exact natU k
theorem i2d_bd {k : Nat} (hk : k ≤ 1000) : BD 1084 (FP.i2d (nI k)) := by
  refine ⟨(i2d_v hk).1, ?_⟩
  rw [i2d_ud ⟨k, by omega⟩]
  refine Nat.le_trans (Nat.mul_le_mul_right _ (show k ≤ 2 ^ 10 by omega)) ?_
  rw [← Nat.pow_add]
  exact Nat.le_refl _
theorem d2i_v {x : UInt64} (hx : NF x) (hb : ud x < 1000000 * 2 ^ 1074) : FP.d2i x = nI (ud x / 2 ^ 1074) ∧ ud x / 2 ^ 1074 < 1000000 ∧ (((ud x / 2 ^ 1074 : Nat) : Nat) : Rat) ≤ rv x ∧ rv x < ((ud x / 2 ^ 1074 : Nat) : Rat) + 1 := by
  have hK : ud x / 2 ^ 1074 < 1000000 := Nat.div_lt_of_lt_mul (by rw [Nat.mul_comm]; exact hb)
  have hv := FP.Core.d2i_val hx.nn.ne
  rw [hx.nn.sgn, FP.Core.zmag_bits hx.nn.ne, Nat.mod_eq_of_lt hx.nn.lt63] at hv
  have hv2 : (FP.Core.d2i x).toInt = ((ud x / 2 ^ 1074 : Nat) : Int) := by
    rw [hv]
    show max (-2 ^ 31) (min (2 ^ 31 - 1) ((ud x / 2 ^ 1074 : Nat) : Int)) = _
    omega
  have hdm := Nat.div_add_mod (ud x) (2 ^ 1074)
  have hml := Nat.mod_lt (ud x) (Nat.two_pow_pos 1074)
  refine ⟨Int32.toInt.inj ?_, hK, ?_, ?_⟩
  · rw [nI_toInt (by omega)]
    exact hv2
  · rw [rv_u hx.nn, ← natU]
    exact scaleN (by rw [Nat.mul_comm]; exact Nat.div_mul_le_self _ _ |> fun h => by rw [Nat.mul_comm]; exact h) (Rat.le_of_lt eta_pos)
  · rw [rv_u hx.nn]
    have h1 : ((ud x / 2 ^ 1074 : Nat) : Rat) + 1 = ((ud x / 2 ^ 1074 + 1 : Nat) : Rat) := by
      rw [Rat.natCast_add]; rfl
    rw [h1, ← natU (ud x / 2 ^ 1074 + 1)]
    refine Rat.mul_lt_mul_of_pos_right (Rat.natCast_lt_natCast.mpr ?_) eta_pos
    rw [Nat.add_mul, Nat.one_mul, Nat.mul_comm]
    generalize 2 ^ 1074 * (ud x / 2 ^ 1074) = a at *
    generalize 2 ^ 1074 = b at *
    omega
/-- what lies ready, divided -/
theorem rd_q {m n : Nat} {h : Nat → UInt64} {q : UInt64} {b : Nat} (hb : HB m n h) (hq : QB q) (hbn : b < n) (hg : FP.dcmp (leB h q b) 0 = some .gt) : NF (leB h q b) ∧ 0 < (leB h q b).toNat ∧ rv (leB h q b) ≤ 50 ∧ NF (FP.ddiv (leB h q b) 4591870180066957722) ∧ ud (FP.ddiv (leB h q b) 4591870180066957722) ≤ 1024 * 2 ^ 1074 := by
  have hl := leB_ne hb hq hbn
  have hll : zv (leB h q b) ≤ zv q := lesv_le hq.1 (hb.2 b hbn).1.nf.nn.ne
  have hz := (gt_zv hl).mp hg
  have nl := nn_pos hl hz
  rw [nl.uz] at hll hz
  have hq50 := hq.2.2
  have hle : ud (leB h q b) ≤ ud 4632233691727265792 := by omega
  have nlf : NF (leB h q b) := nf_le nf_50 (ud_le.mp hle)
  have hD1 : (FP.ddiv (leB h q b) 4591870180066957722).toNat ≤ (4652218415073722368 : UInt64).toNat := ddiv_le nlf nf_01 (by decide +kernel) (by
    refine Nat.le_trans (Nat.mul_le_mul_right _ hle) ?_
    decide +kernel)
  have r50 : rv 4632233691727265792 = 50 := by
    have h := rv_c (x := 4632233691727265792) 50 1074 0 1 (by unfold NN; decide +kernel) (by decide) (by decide +kernel) (by decide)
    simpa using h
  refine ⟨nlf, ud_pos.mp (by omega), ?_, nf_le (v := 4652218415073722368) (by unfold NF; decide +kernel) hD1, ?_⟩
  · rw [← r50]
    exact (rv_leN nl nf_50.nn).mpr (ud_le.mp hle)
  · have := ud_of_le hD1
    rw [show ud 4652218415073722368 = 1024 * 2 ^ 1074 by decide +kernel] at this
    exact this
/-- the bottles ready, as a number -/
theorem rdv_v {m n : Nat} {h : Nat → UInt64} {df : Int32} {q : UInt64} (hb : HB m n h) (hq : QB q) : ∃ K : Nat, K < 1000000 ∧ rdv h n df q = nI K ∧ (0 < K → ∃ b, elO h n = some b ∧ b < n ∧ nI b = df ∧ FP.dcmp (h (8 + b)) 4622945017495814144 ≠ some .lt ∧ FP.dcmp (h (24 + b)) 4627730092099895296 ≠ some .lt ∧ FP.dcmp (leB h q b) 0 = some .gt ∧ ((K : Nat) : Rat) ≤ rv (FP.ddiv (leB h q b) 4591870180066957722) ∧ rv (FP.ddiv (leB h q b) 4591870180066957722) < ((K : Nat) : Rat) + 1) := by
  cases ho : elO h n with
  | none => exact ⟨0, by decide, by rw [rdv_none ho]; rfl, fun h9 => absurd h9 (Nat.lt_irrefl 0)⟩
  | some b =>
    have hbn := elO_lt h n b ho
    rw [rdv_some ho]
    by_cases c1 : nI b = df
    · rw [if_pos c1]
      by_cases c2 : FP.dcmp (h (8 + b)) 4622945017495814144 = some .lt ∨ FP.dcmp (h (24 + b)) 4627730092099895296 = some .lt
      · rw [if_pos c2]
        exact ⟨0, by decide, rfl, fun h9 => absurd h9 (Nat.lt_irrefl 0)⟩
      · rw [if_neg c2]
        by_cases c3 : FP.dcmp (leB h q b) 0 = some .gt
        · rw [if_pos c3]
          obtain ⟨a1, a2, a3, a4, a5⟩ := rd_q hb hq hbn c3
          obtain ⟨d1, d2, d3, d4⟩ := d2i_v a4 (Nat.lt_of_le_of_lt a5 (by decide +kernel))
          exact ⟨_, d2, d1, fun _ => ⟨b, rfl, hbn, c1, fun h9 => c2 (Or.inl h9), fun h9 => c2 (Or.inr h9), c3, d3, d4⟩⟩
        · rw [if_neg c3]
          exact ⟨0, by decide, rfl, fun h9 => absurd h9 (Nat.lt_irrefl 0)⟩
    · rw [if_neg c1]
      exact ⟨0, by decide, rfl, fun h9 => absurd h9 (Nat.lt_irrefl 0)⟩
theorem rdv_nn {m n : Nat} {h : Nat → UInt64} {df : Int32} {q : UInt64} (hb : HB m n h) (hq : QB q) : ¬ rdv h n df q < 0 := by
  obtain ⟨K, hK, e, -⟩ := rdv_v (df := df) hb hq
  rw [e]
  exact nI_pos (by omega)
theorem rle {a b : Nat} (h : a ≤ b) : ((a : Nat) : Rat) ≤ ((b : Nat) : Rat) := Rat.natCast_le_natCast.mpr h
theorem thirty_bd : BD 1081 4629137466983448576 := ⟨by unfold NF; decide +kernel, by decide +kernel⟩
/-- must in the first barrel -/
theorem fil_num {m n F w : Nat} {zs : Nat → Int32} {h : Nat → UInt64} {lam M : Rat} (hn0 : 0 < n) (hn : n ≤ 8) (hm7 : 7 ≤ m) (hm : m ≤ 300) (hF1 : 10 ≤ F) (hF : F ≤ 100) (hz0 : zs 0 = nI F) (hb : HB m n h) (hE : EZ n h) (hC : 2 * rv cL ≤ lam) (hl1 : lam ≤ 1) (hW : ∀ j, j < n → (h j).toNat = 0 ∨ lam ≤ rv (h j)) (hM0 : 0 ≤ M) (hM : M ≤ 199) (hA : ∀ j, j < n → rv (h (8 + j)) ≤ M) (hl0 : rv (h 0) ≤ ((F : Nat) : Rat) + 1 / 1099511627776) (hw1 : 1 ≤ w) (hw2 : w ≤ 100) :
    ∃ R : UInt64, pmR n zs h (FP.i2d (nI w)) = R ∧ LB R ∧ rv R ≤ ((w : Nat) : Rat) ∧
      (R = FP.i2d (nI w) ∨ (((F : Nat) : Rat) - 1 / 17179869184 ≤ rv (pmH n zs h (FP.i2d (nI w)) 0))) ∧ rv (pmH n zs h (FP.i2d (nI w)) 0) ≤ ((F : Nat) : Rat) + 1 / 1099511627776 ∧
      (rv (pmH n zs h (FP.i2d (nI w)) 0) ≤ (rv (h 0) + rv R) + (rv (h 0) + rv R) / 4503599627370496 ∧ (rv (h 0) + rv R) - (rv (h 0) + rv R) / 4503599627370496 ≤ rv (pmH n zs h (FP.i2d (nI w)) 0)) ∧
      SL (pmH n zs h (FP.i2d (nI w))) n = SL h n - rv (h 0) + rv (pmH n zs h (FP.i2d (nI w)) 0) ∧
      EZ n (pmH n zs h (FP.i2d (nI w))) ∧ (∀ j, j < n → (pmH n zs h (FP.i2d (nI w)) j).toNat = 0 ∨ lam ≤ rv (pmH n zs h (FP.i2d (nI w)) j)) ∧ (∀ j, j < n → rv (pmH n zs h (FP.i2d (nI w)) (8 + j)) ≤ M + 1 / 1099511627776) := by
  have hl0e := lam_eta hC
  have et := eta_pos
  have cl0 : 0 < rv cL := (rv_pos nf_cL.nn).mpr (by decide)
  have hlp : 0 < lam := by grind
  obtain ⟨iw1, iw2⟩ := i2d_v (k := w) (by omega)
  obtain ⟨iF1, iF2⟩ := i2d_v (k := F) (by omega)
  have h0 := (hb.2 0 hn0).1
  have r0 := h0.r
  have eH : pmH n zs h (FP.i2d (nI w)) = poH h (musv (zs 0) (h 0) (FP.i2d (nI w))) := if_neg (by omega)
  have eR : pmR n zs h (FP.i2d (nI w)) = poR (musv (zs 0) (h 0) (FP.i2d (nI w))) := if_neg (by omega)
  have hw1r := rle hw1
  have hw2r := rle hw2
  have hFr1 := rle hF1
  have hFr := rle hF
  have n1 : ((1 : Nat) : Rat) = 1 := rfl
  have n10 : ((10 : Nat) : Rat) = 10 := rfl
  have n100 : ((100 : Nat) : Rat) = 100 := rfl
  rw [n1] at hw1r
  rw [n100] at hw2r hFr
  rw [n10] at hFr1
  have hX100 : (FP.i2d (nI w)).toNat ≤ 4636737291354636288 := (sz_d hw2).1
  obtain ⟨m1, m2, m3, m4⟩ := mus_ok (z := zs 0) (l0 := h 0) (X := FP.i2d (nI w)) ⟨F, hF1, hF, hz0⟩ h0 hX100
  have hdne := dsub_ne iF1.fin h0.nf.fin
  have hor : musv (zs 0) (h 0) (FP.i2d (nI w)) = _ ∨ musv (zs 0) (h 0) (FP.i2d (nI w)) = _ := lesv_or (FP.i2d (nI w)) (FP.dsub (FP.i2d (zs 0)) (h 0))
  have hcase : (FP.dcmp (FP.i2d (nI w)) (FP.dsub (FP.i2d (nI F)) (h 0)) = some .lt ∧ musv (zs 0) (h 0) (FP.i2d (nI w)) = FP.i2d (nI w)) ∨ (FP.dcmp (FP.i2d (nI w)) (FP.dsub (FP.i2d (nI F)) (h 0)) ≠ some .lt ∧ musv (zs 0) (h 0) (FP.i2d (nI w)) = FP.dsub (FP.i2d (nI F)) (h 0)) := by
    rw [← hz0]
    by_cases c : FP.dcmp (FP.i2d (nI w)) (FP.dsub (FP.i2d (zs 0)) (h 0)) = some .lt
    · exact Or.inl ⟨c, if_pos c⟩
    · exact Or.inr ⟨c, if_neg c⟩
  by_cases hg : FP.dcmp (musv (zs 0) (h 0) (FP.i2d (nI w))) 0 = some .gt
  · obtain ⟨g1, g2, g3⟩ := m4 hg
    have eR2 : poR (musv (zs 0) (h 0) (FP.i2d (nI w))) = musv (zs 0) (h 0) (FP.i2d (nI w)) := if_pos hg
    have eH2 : poH h (musv (zs 0) (h 0) (FP.i2d (nI w))) = _ := if_pos hg
    generalize hG : musv (zs 0) (h 0) (FP.i2d (nI w)) = G at *
    have gl := lb_100 g2
    have gr := gl.r
    have gp := (rv_pos gl.nf.nn).mpr g1
    have hmx := mix_r (v := h 0) (w := G) (x := h 8) (y := 0) h0 gl g1 (hb.2 0 hn0).2.1 vB_0 (by omega)
    obtain ⟨q1, q2, q3, q4⟩ := hmx
    have hNp : 0 < (FP.dadd (h 0) G).toNat := Nat.lt_of_lt_of_le g1 (dadd_geR h0.nf gl.nf)
    have np := (rv_pos q1.nn).mpr hNp
    have v0 : pmH n zs h (FP.i2d (nI w)) 0 = FP.dadd (h 0) G := by rw [eH, eH2]; exact hset_b.1
    -- how much
    have hGr : rv G ≤ ((w : Nat) : Rat) ∧ rv G ≤ (((F : Nat) : Rat) - rv (h 0)) + (((F : Nat) : Rat) - rv (h 0)) / 4503599627370496 ∧ (G = FP.i2d (nI w) ∨ (((F : Nat) : Rat) - rv (h 0)) - (((F : Nat) : Rat) - rv (h 0)) / 4503599627370496 ≤ rv G) ∧ rv (h 0) ≤ ((F : Nat) : Rat) := by
      have hlt : (h 0).toNat < (FP.i2d (nI F)).toNat := by
        refine Nat.lt_of_not_le fun h9 => ?_
        have h10 := dsub_nonpos iF1 h0.nf h9
        rcases hcase with ⟨c, e⟩ | ⟨c, e⟩
        · have := (cmp_rv iw1.nn.ne hdne).1.mp c
          rw [rv_lt, iw1.nn.uz] at this
          omega
        · rw [e] at hg
          have := (gt_zv hdne).mp hg
          omega
      have s := sub_err iF1 h0.nf (Nat.le_of_lt hlt) (bd_r (i2d_bd (k := F) (by omega)) (by decide))
      rw [iF2] at s
      have hlr := (rv_leN h0.nf.nn iF1.nn).mpr (Nat.le_of_lt hlt)
      rw [iF2] at hlr
      rcases hcase with ⟨c, e⟩ | ⟨c, e⟩
      · have h10 := (cmp_rv iw1.nn.ne hdne).1.mp c
        rw [e, iw2]
        rw [iw2] at h10
        refine ⟨Rat.le_refl, ?_, Or.inl rfl, hlr⟩
        have := s.2.1
        grind
      · have h10 : ¬ rv (FP.i2d (nI w)) < rv (FP.dsub (FP.i2d (nI F)) (h 0)) := fun h9 => c ((cmp_rv iw1.nn.ne hdne).1.mpr h9)
        rw [iw2] at h10
        rw [e]
        exact ⟨Rat.not_lt.mp h10, s.2.1, Or.inr s.2.2, hlr⟩
    obtain ⟨u1, u2, u3, u4⟩ := hGr
    refine ⟨G, by rw [eR, eR2], gl, u1, ?_, ?_, ?_, ?_, ?_, ?_, ?_⟩
    · rcases u3 with u3 | u3
      · exact Or.inl u3
      · refine Or.inr ?_
        rw [v0]
        have := q2.2
        clear q3 q4 hA hW m4 hcase hor
        grind
    · rw [v0]
      have := q2.1
      clear q3 q4 hA hW m4 hcase hor
      grind
    · rw [v0]; exact q2
    · rw [v0, eH, eH2, SL_set n hn, if_pos hn0]
      grind
    · intro j hj hz9
      by_cases c : j = 0
      · subst c
        rw [v0] at hz9
        omega
      · rw [eH, eH2, hset_ne (by omega) (by omega) c] at hz9
        rw [eH, eH2, hset_ne1 (by omega) (by omega) c (Or.inl rfl), hset_ne1 (by omega) (by omega) c (Or.inr (Or.inl rfl)), hset_ne1 (by omega) (by omega) c (Or.inr (Or.inr rfl))]
        exact hE j hj hz9
    · intro j hj
      by_cases c : j = 0
      · subst c
        rw [v0]
        refine Or.inr ?_
        rcases hW 0 hn0 with hw | hw
        · have hz : h 0 = 0 := toNat_0 hw
          have hz2 : rv (h 0) = 0 := by rw [hz, rv_zero]
          have hG1 : 1 ≤ rv G := by
            rcases u3 with u3 | u3
            · rw [u3, iw2]; exact hw1r
            · rw [hz2] at u3
              grind
          exact Rat.le_trans hl1 (Rat.le_trans hG1 ((rv_leN gl.nf.nn q1.nn).mpr (dadd_geR h0.nf gl.nf)))
        · exact Rat.le_trans hw ((rv_leN h0.nf.nn q1.nn).mpr (dadd_geL h0.nf gl.nf))
      · rw [eH, eH2, hset_ne (by omega) (by omega) c]
        exact hW j hj
    · intro j hj
      by_cases c : j = 0
      · subst c
        have va : pmH n zs h (FP.i2d (nI w)) (8 + 0) = mixv (h 0) (h 8) G 0 := by rw [eH, eH2]; exact hset_b.2.1
        rw [va]
        rw [rv_zero] at q3
        have x1 : rv (h 8) ≤ M := hA 0 hn0
        have w1 := Rat.mul_le_mul_of_nonneg_left x1 r0.1
        have w3 := Rat.mul_le_mul_of_nonneg_left q2.2 hM0
        have w4 := Rat.mul_le_mul_of_nonneg_left hM r0.1
        have w5 := Rat.mul_le_mul_of_nonneg_left hM gr.1
        have w6 := Rat.mul_nonneg gr.1 hM0
        have hV : lam ≤ rv (h 0) + rv G := by
          rcases hW 0 hn0 with hw | hw
          · have hz2 : rv (h 0) = 0 := by rw [toNat_0 hw, rv_zero]
            have hG1 : 1 ≤ rv G := by
              rcases u3 with u3 | u3
              · rw [u3, iw2]; exact hw1r
              · rw [hz2] at u3
                clear hA hW hE
                grind
            rw [hz2, Rat.zero_add]
            exact Rat.le_trans hl1 hG1
          · have := gr.1
            clear hA hW hE
            grind
        refine Rat.le_of_mul_le_mul_right (c := rv (FP.dadd (h 0) G)) ?_ np
        generalize rv (mixv (h 0) (h 8) G 0) * rv (FP.dadd (h 0) G) = ZN at *
        generalize rv (h 0) * rv (h 8) = X2 at *
        generalize rv (FP.dadd (h 0) G) = N at *
        generalize rv (h 0) = l2 at *
        generalize rv G = g at *
        clear hb hA hW hE u3 hcase hor m4 q4
        have m1 : (M + 1 / 1099511627776) * N = M * N + N / 1099511627776 := by grind
        have m2 : M * ((l2 + g) - (l2 + g) / 4503599627370496) = (l2 * M + g * M) - (l2 * M + g * M) / 4503599627370496 := by grind
        rw [m1]
        rw [m2] at w3
        generalize M * N = MN at *
        generalize l2 * M = l2M at *
        generalize g * M = gM at *
        generalize eta = t at *
        grind
      · rw [eH, eH2, hset_ne1 (by omega) (by omega) c (Or.inl rfl)]
        have := hA j hj
        grind
  · have eR2 : poR (musv (zs 0) (h 0) (FP.i2d (nI w))) = 0 := if_neg hg
    have eH2 : poH h (musv (zs 0) (h 0) (FP.i2d (nI w))) = h := if_neg hg
    rw [eR2] at eR
    rw [eH2] at eH
    rw [eH]
    have hFl : ((F : Nat) : Rat) ≤ rv (h 0) := by
      refine Rat.not_lt.mp fun h9 => ?_
      have h10 : (h 0).toNat < (FP.i2d (nI F)).toNat := (rv_ltN h0.nf.nn iF1.nn).mp (by rw [iF2]; exact h9)
      obtain ⟨p1, p2, p3⟩ := dsub_pos iF1 h0.nf h10
      rcases hcase with ⟨c, e⟩ | ⟨c, e⟩
      · rw [e] at hg
        refine hg ((gt_rv iw1.nn).mpr ?_)
        rw [iw2]
        grind
      · rw [e] at hg
        exact hg ((ge_0 p1.nn).mpr p2)
    refine ⟨0, eR, by unfold LB; decide +kernel, ?_, Or.inr ?_, hl0, ?_, ?_, hE, hW, fun j hj => ?_⟩
    · rw [rv_zero]; grind
    · grind
    · rw [rv_zero]
      constructor <;> grind
    · grind
    · have := hA j hj
      grind
theorem filF_of {m n F w : Nat} {zs : Nat → Int32} {h : Nat → UInt64} {df : Int32} {q : UInt64} {lam M : Rat} (hn0 : 0 < n) (hn : n ≤ 8) (hm7 : 7 ≤ m) (hm : m ≤ 300) (hF1 : 10 ≤ F) (hF : F ≤ 100) (hz : ∀ i, i < n → ZB (zs i)) (hz0 : zs 0 = nI F) (hb : HB m n h) (hq : QB q) (hE : EZ n h) (hC : 2 * rv cL ≤ lam) (hl1 : lam ≤ 1) (hW : ∀ j, j < n → (h j).toNat = 0 ∨ lam ≤ rv (h j)) (hM0 : 0 ≤ M) (hM : M ≤ 199) (hA : ∀ j, j < n → rv (h (8 + j)) ≤ M) (hl0 : rv (h 0) ≤ ((F : Nat) : Rat) + 1 / 1099511627776) (hw1 : 1 ≤ w) (hw2 : w ≤ 100) : filF n zs h df q (nI w) (nI F) := by
  obtain ⟨R, e, r1, r2, r3, r4, r5, r6, -, -, -⟩ := fil_num hn0 hn hm7 hm hF1 hF hz0 hb hE hC hl1 hW hM0 hM hA hl0 hw1 hw2
  have hX100 : (FP.i2d (nI w)).toNat ≤ 4636737291354636288 := (sz_d hw2).1
  have hb1 := pmH_HB hz hb hn hX100 hm7 (by omega)
  obtain ⟨iw1, iw2⟩ := i2d_v (k := w) (by omega)
  obtain ⟨iF1, iF2⟩ := i2d_v (k := F) (by omega)
  have iFb := i2d_bd (k := F) (by omega)
  have sb0 := suL_bd hn hb (k := n) (Nat.le_refl n)
  have sb1 := suL_bd hn hb1 (k := n) (Nat.le_refl n)
  have s0 := suL_a hn hb
  have s1 := suL_a hn hb1
  have h0 := (hb.2 0 hn0).1
  have h1 := (hb1.2 0 hn0).1
  have hr0 := h0.r
  have hr1 := h1.r
  have rr := r1.r
  have hFr := rle hF
  have n100 : ((100 : Nat) : Rat) = 100 := rfl
  rw [n100] at hFr
  have hF0 : 0 ≤ ((F : Nat) : Rat) := Rat.natCast_nonneg
  have b6 := bd_add (iFb.mono (show 1084 ≤ 1100 by decide)) (bd_c6.mono (show 1074 ≤ 1100 by decide)) (by decide)
  have e6 := add_err iF1 nf_c6 (bd_r b6 (by decide))
  have b9 := bd_add (sb0.mono (show 1085 ≤ 1100 by decide)) (r1.bd.mono (show 1082 ≤ 1100 by decide)) (by decide)
  have e9 := add_err sb0.1 r1.nf (bd_r b9 (by decide))
  have b11 := bd_add (h0.bd.mono (show 1082 ≤ 1100 by decide)) (r1.bd.mono (show 1082 ≤ 1100 by decide)) (by decide)
  have e11 := add_err h0.nf r1.nf (bd_r b11 (by decide))
  rw [c6_v, iF2] at e6
  unfold filF
  rw [e]
  refine ⟨⟨badR_n (lo := 1) (hi := 100) hw1 hw2 (by decide), hn0, (mn_ok (Or.inl rfl) hn hb).1.1, pook_of (hz 0 hn0) (hb.2 0 hn0) hX100 hm7 (by omega)⟩,
    ⟨cmp_ne r1.nf.nn.ne ne_0, fun h9 => ?_⟩, ⟨cmp_ne r1.nf.nn.ne iw1.nn.ne, fun h9 => ?_⟩, ⟨b6.1.nn.n64, cmp_ne h1.nf.nn.ne b6.1.nn.ne, fun h9 => ?_⟩, (mn_ok (Or.inl rfl) hn hb1).1.1,
    ⟨b9.1.nn.n64, ?_⟩, ⟨b11.1.nn.n64, ?_⟩, fun h9 => ?_, hb1.nnr, rd_ok hb1 hq, rdv_nn hb1 hq⟩
  · have := (cmp_rv r1.nf.nn.ne ne_0).1.mp h9
    rw [rv_zero] at this
    grind
  · have := (cmp_rv r1.nf.nn.ne iw1.nn.ne).2.1.mp h9
    rw [iw2] at this
    grind
  · have := (cmp_rv h1.nf.nn.ne b6.1.nn.ne).2.1.mp h9
    have := e6.2
    clear hA hW hE e9 e11 s0 s1
    grind
  · refine near_of (sb1.mono (by decide)) (b9.mono (by decide)) ?_ ?_
    · clear hA hW hE e6 e11 r3 r4
      generalize rv (suL (pmH n zs h (FP.i2d (nI w))) n) = x1 at *
      generalize rv (FP.dadd (suL h n) R) = x2 at *
      generalize rv (suL h n) = x3 at *
      generalize SL (pmH n zs h (FP.i2d (nI w))) n = S1 at *
      generalize SL h n = S0 at *
      generalize rv (pmH n zs h (FP.i2d (nI w)) 0) = l1 at *
      generalize rv (h 0) = l0 at *
      generalize rv R = rR at *
      grind
    · clear hA hW hE e6 e11 r3 r4
      generalize rv (suL (pmH n zs h (FP.i2d (nI w))) n) = x1 at *
      generalize rv (FP.dadd (suL h n) R) = x2 at *
      generalize rv (suL h n) = x3 at *
      generalize SL (pmH n zs h (FP.i2d (nI w))) n = S1 at *
      generalize SL h n = S0 at *
      generalize rv (pmH n zs h (FP.i2d (nI w)) 0) = l1 at *
      generalize rv (h 0) = l0 at *
      generalize rv R = rR at *
      grind
  · refine near_of (h1.bd.mono (by decide)) (b11.mono (by decide)) ?_ ?_
    · clear hA hW hE e6 e9 r3 r4 r6 s0 s1
      grind
    · clear hA hW hE e6 e9 r3 r4 r6 s0 s1
      grind
  · have hd : ((F : Nat) : Rat) - 1 / 17179869184 ≤ rv (pmH n zs h (FP.i2d (nI w)) 0) := r3.resolve_left (fun h10 => h9 (by rw [h10]; exact cmp_self iw1.nn.ne))
    refine near_of (h1.bd.mono (by decide)) (iFb.mono (by decide)) ?_ ?_
    · rw [iF2]
      clear hA hW hE e6 e9 e11 r3 r6 s0 s1 r5
      grind
    · rw [iF2]
      clear hA hW hE e6 e9 e11 r3 r6 s0 s1 r5
      grind
