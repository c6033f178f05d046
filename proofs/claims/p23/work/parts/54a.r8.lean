/-! REAL VALUES 9: a year in one barrel; sums round to the nearest; the oldest -/
theorem sum_near {a b V : UInt64} (ha : NF a) (hb : NF b) (hr : NF (FP.dadd a b)) (hV : NF V) : (((ud a : Int) + (ud b : Int)) - (ud (FP.dadd a b) : Int)).natAbs ≤ (((ud a : Int) + (ud b : Int)) - (ud V : Int)).natAbs := by
  obtain ⟨s, c, q, x1, x2, x3⟩ := nf_data ha
  obtain ⟨t, d, r, y1, y2, y3⟩ := nf_data hb
  obtain ⟨s1, c1, q1, z1, z2, z3⟩ := nf_data hr
  obtain ⟨s2, c2, q2, v1, v2, v3⟩ := nf_data hV
  obtain ⟨sg, n, e, p1, p2, p3⟩ := FP.Core.sum_units x2 y2
  have hx : FP.Core.zval FP.Core.b64 (.fin s c q) = (ud a : Int) := by
    rw [← ha.nn.uz]
    show _ = FP.Core.zval FP.Core.b64 (FP.Core.decode FP.Core.b64 a.toNat)
    rw [x1]
  have hy : FP.Core.zval FP.Core.b64 (.fin t d r) = (ud b : Int) := by
    rw [← hb.nn.uz]
    show _ = FP.Core.zval FP.Core.b64 (FP.Core.decode FP.Core.b64 b.toNat)
    rw [y1]
  rw [hx, hy] at p3
  have hU : (FP.Core.inUnits n e FP.Core.b64.qmin : Int) = (ud a : Int) + (ud b : Int) := by
    cases sg
    · exact p3
    · simp only [FP.Core.signed, if_true] at p3
      omega
  have hd : FP.Core.roundRatio FP.Core.b64 sg n 1 e = .fin s1 c1 q1 := by
    rw [← z1]
    show _ = FP.Core.val64 (FP.Core.dadd a b)
    rw [FP.Core.val64_dadd, show FP.Core.val64 a = _ from x1, show FP.Core.val64 b = _ from y1, p1]
    rfl
  have h1 := FP.Core.roundRatio_nearest FP.Core.good_b64 (by decide) hd v2.1 v2.2.1 (Int.le_refl _) p2
  unfold FP.Core.distance at h1
  rw [hU] at h1
  have e1 : (FP.Core.inUnits c1 q1 FP.Core.b64.qmin : Nat) = ud (FP.dadd a b) := z3
  have e2 : (FP.Core.inUnits c2 q2 FP.Core.b64.qmin : Nat) = ud V := v3
  rw [e1, e2] at h1
  simpa using h1
theorem add_mono {x y c : UInt64} (hx : NF x) (hy : NF y) (hc : NF c) (h1 : NF (FP.dadd x c)) (h2 : NF (FP.dadd y c)) (h : x.toNat ≤ y.toNat) : (FP.dadd x c).toNat ≤ (FP.dadd y c).toNat := by
  refine Nat.le_of_not_lt fun h9 => ?_
  have a1 := sum_near hx hc h1 h2
  have a2 := sum_near hy hc h2 h1
  have a3 := ud_lt.mpr h9
  have a4 := ud_of_le h
  have a5 : ud x = ud y := by omega
  have a6 : x.toNat = y.toNat := by
    have := ud_le.mp (Nat.le_of_eq a5.symm)
    omega
  rw [UInt64.toNat_inj.mp a6] at h9
  omega
/-! the oldest -/
theorem elO_max {h : Nat → UInt64} {n : Nat} (hN : NNr n h) : ∀ k, k ≤ n → (elO h k = none ∧ ∀ i, i < k → FP.dcmp (h i) 0 ≠ some .gt) ∨ ∃ b, elO h k = some b ∧ b < k ∧ FP.dcmp (h b) 0 = some .gt ∧ ∀ i, i < k → FP.dcmp (h i) 0 = some .gt → (h (8 + i)).toNat ≤ (h (8 + b)).toNat := by
  intro k
  induction k with
  | zero => exact fun _ => Or.inl ⟨rfl, fun i hi => absurd hi (Nat.not_lt_zero i)⟩
  | succ k ih =>
    intro hk
    show ((if elt h k (elO h k) = true then some k else elO h k) = none ∧ _) ∨ ∃ b, (if elt h k (elO h k) = true then some k else elO h k) = some b ∧ _
    rcases ih (by omega) with ⟨e, h1⟩ | ⟨b, e, hb, h1, h2⟩
    · rw [e]
      by_cases g : FP.dcmp (h k) 0 = some .gt
      · have ht : elt h k none = true := by
          unfold elt
          simp [g]
        rw [if_pos ht]
        refine Or.inr ⟨k, rfl, by omega, g, fun i hi gi => ?_⟩
        by_cases c : i = k
        · subst c; exact Nat.le_refl _
        · exact absurd gi (h1 i (by omega))
      · have ht : ¬ elt h k none = true := by
          unfold elt
          simp [g]
        rw [if_neg ht]
        refine Or.inl ⟨rfl, fun i hi => ?_⟩
        by_cases c : i = k
        · subst c; exact g
        · exact h1 i (by omega)
    · rw [e]
      have hc := (cmp_nn (hN k (by omega)).2 (hN b (by omega)).2).1
      by_cases g : FP.dcmp (h k) 0 = some .gt ∧ FP.dcmp (h (8 + k)) (h (8 + b)) ≠ some .lt
      · have ht : elt h k (some b) = true := by
          unfold elt
          simp [g.1, g.2]
        rw [if_pos ht]
        refine Or.inr ⟨k, rfl, by omega, g.1, fun i hi gi => ?_⟩
        have hbk : (h (8 + b)).toNat ≤ (h (8 + k)).toNat := Nat.le_of_not_lt fun h9 => g.2 (hc.mpr h9)
        by_cases c : i = k
        · subst c; exact Nat.le_refl _
        · exact Nat.le_trans (h2 i (by omega) gi) hbk
      · have ht : ¬ elt h k (some b) = true := by
          unfold elt
          intro h9
          rw [Bool.and_eq_true, decide_eq_true_eq, decide_eq_true_eq] at h9
          exact g h9
        rw [if_neg ht]
        refine Or.inr ⟨b, rfl, by omega, h1, fun i hi gi => ?_⟩
        by_cases c : i = k
        · subst c
          have h9 : FP.dcmp (h (8 + i)) (h (8 + b)) = some .lt := Classical.byContradiction fun h9 => g ⟨gi, h9⟩
          exact Nat.le_of_lt (hc.mp h9)
        · exact h2 i (by omega) gi
/-! constants of a year -/
theorem sh_all : ∀ w : Int32, 4580160821035794432 ≤ (shv w).toNat ∧ (shv w).toNat ≤ 4585227370616586240 := by
  intro w
  rcases shv_or w with h | h | h | h <;> rw [h] <;> decide +kernel
theorem sh_r (w : Int32) : BD 1074 (shv w) ∧ 1 / 64 ≤ rv (shv w) ∧ rv (shv w) ≤ 9 / 256 := by
  have h1 := sh_all w
  have h2 := shv_nf w
  have c1 : rv 4580160821035794432 = 1 / 64 := by
    have h := rv_c (x := 4580160821035794432) 1 1068 6 64 (by unfold NN; decide +kernel) (by decide) (by decide +kernel) (by decide)
    have h : rv 4580160821035794432 * 64 = 1 := by simpa using h
    generalize rv 4580160821035794432 = z at *
    grind
  have c2 : rv 4585227370616586240 = 9 / 256 := by
    have h := rv_c (x := 4585227370616586240) 9 1066 8 256 (by unfold NN; decide +kernel) (by decide) (by decide +kernel) (by decide)
    have h : rv 4585227370616586240 * 256 = 9 := by simpa using h
    generalize rv 4585227370616586240 = z at *
    grind
  refine ⟨⟨h2.1, Nat.le_trans h2.2 (Nat.pow_le_pow_right (by decide) (by decide))⟩, ?_, ?_⟩
  · rw [← c1]
    exact (rv_leN (by unfold NN; decide +kernel) h2.1.nn).mpr h1.1
  · rw [← c2]
    exact (rv_leN h2.1.nn (by unfold NN; decide +kernel)).mpr h1.2
theorem dr_all2 : ∀ k : Fin 41, 4595923419731591168 ≤ (drv (nI k.val)).toNat ∧ (drv (nI k.val)).toNat ≤ 4611967493404098560 := by decide +kernel
theorem dr_r {wm : Int32} (hw : WB wm) : BD 1076 (drv wm) ∧ 3 / 16 ≤ rv (drv wm) ∧ rv (drv wm) ≤ 17 / 8 := by
  obtain ⟨k, hk, rfl⟩ := hw
  have h1 := dr_all2 ⟨k, by omega⟩
  have hn : NF (drv (nI k)) := by
    have := h1.2
    unfold NF
    have e : (4611967493404098560 : UInt64).toNat = 4611967493404098560 := by decide
    simp only [UInt64.le_iff_toNat_le] at *
    omega
  have c1 : rv 4595923419731591168 = 3 / 16 := by
    have h := rv_c (x := 4595923419731591168) 3 1070 4 16 (by unfold NN; decide +kernel) (by decide) (by decide +kernel) (by decide)
    have h : rv 4595923419731591168 * 16 = 3 := by simpa using h
    generalize rv 4595923419731591168 = z at *
    grind
  have c2 : rv 4611967493404098560 = 17 / 8 := by
    have h := rv_c (x := 4611967493404098560) 17 1071 3 8 (by unfold NN; decide +kernel) (by decide) (by decide +kernel) (by decide)
    have h : rv 4611967493404098560 * 8 = 17 := by simpa using h
    generalize rv 4611967493404098560 = z at *
    grind
  refine ⟨⟨hn, ?_⟩, ?_, ?_⟩
  · refine Nat.le_trans (ud_of_le (v := 4611967493404098560) h1.2) ?_
    decide +kernel
  · rw [← c1]
    exact (rv_leN (by unfold NN; decide +kernel) hn.nn).mpr h1.1
  · rw [← c2]
    exact (rv_leN hn.nn (by unfold NN; decide +kernel)).mpr h1.2
theorem c9_r : BD 1074 4606281698874543309 ∧ rv 4606281698874543309 ≤ 29 / 32 := by
  have c2 : rv 4606337993869885440 = 29 / 32 := by
    have h := rv_c (x := 4606337993869885440) 29 1069 5 32 (by unfold NN; decide +kernel) (by decide) (by decide +kernel) (by decide)
    have h : rv 4606337993869885440 * 32 = 29 := by simpa using h
    generalize rv 4606337993869885440 = z at *
    grind
  refine ⟨⟨by unfold NF; decide +kernel, by decide +kernel⟩, ?_⟩
  rw [← c2]
  exact (rv_leN (by unfold NN; decide +kernel) (by unfold NN; decide +kernel)).mpr (by decide +kernel)
/-- what a barrel loses in a year, in values -/
theorem lost_r {w : Int32} {li dr : UInt64} {lam : Rat} (hl : LB li) (hd : BD 1076 dr) (hd1 : 3 / 16 ≤ rv dr) (hd2 : rv dr ≤ 17 / 8) (hlam : eta * 1606938044258990275541962092341162602522202993782792835301376 ≤ lam) (hli : lam ≤ rv li) :
    BD 1085 (losv w li dr) ∧ rv (losv w li dr) * 1024 ≤ 77 * rv li ∧ 2 * rv li ≤ rv (losv w li dr) * 1024 := by
  obtain ⟨s0, s1, s2⟩ := sh_r w
  have b1 := bd_mul hl.bd s0 (by decide) (by decide)
  have e1 := mul_err hl.nf s0.1 (bd_r b1 (by decide))
  have b2 := bd_mul b1 hd (by decide) (by decide)
  have e2 := mul_err b1.1 hd.1 (bd_r b2 (by decide))
  have et := eta_pos
  have lr := hl.r
  have p0 := rv_0 b1.1.nn
  have w1 := Rat.mul_le_mul_of_nonneg_left s1 lr.1
  have w2 := Rat.mul_le_mul_of_nonneg_left s2 lr.1
  have w3 := Rat.mul_le_mul_of_nonneg_left hd1 p0
  have w4 := Rat.mul_le_mul_of_nonneg_left hd2 p0
  refine ⟨b2.mono (by decide), ?_⟩
  unfold losv
  generalize rv (FP.dmul (FP.dmul li (shv w)) dr) = L at *
  generalize rv (FP.dmul li (shv w)) * rv dr = pd at *
  generalize rv (FP.dmul li (shv w)) = p at *
  generalize rv li * rv (shv w) = ls at *
  generalize rv li = l at *
  generalize eta = t at *
  clear s0 b1 b2 hl hd s1 s2 hd1 hd2
  constructor <;> grind
