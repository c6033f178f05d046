/-! the quota of a year, bottles drawn -/
theorem zmag_ud {x : UInt64} (h : FP.Core.val64 x ≠ .nan) : (zv x).natAbs = FP.Core.unitsOf FP.Core.b64 (x.toNat % 2 ^ 63) := by
  unfold zv FP.Core.zval
  rw [FP.Core.zmag_bits h]
  cases FP.Core.sgn (FP.Core.val64 x) <;> simp [FP.Core.signed]
theorem fin_abs {x v : UInt64} (h : FP.Core.val64 x ≠ .nan) (hv : NF v) (hb : (zv x).natAbs ≤ ud v) : FP.Core.DFin x := by
  rw [zmag_ud h] at hb
  have h1 : x.toNat % 2 ^ 63 ≤ v.toNat := FP.Core.unitsOf_le_iff.mp hb
  exact (FP.Core.fin_bits x).mpr (Nat.lt_of_le_of_lt h1 hv)
theorem d2i_small {x : UInt64} (h : FP.Core.val64 x ≠ .nan) (hb : x.toNat % 2 ^ 63 < 4607182418800017408) : FP.d2i x = 0 := by
  have h1 : FP.Core.zmag FP.Core.b64 (FP.Core.val64 x) < FP.Core.one64 := by
    rw [FP.Core.zmag_bits h]
    have h2 : FP.Core.unitsOf FP.Core.b64 (x.toNat % 2 ^ 63) < FP.Core.unitsOf FP.Core.b64 4607182418800017408 := FP.Core.unitsOf_lt_iff.mpr hb
    rw [show FP.Core.unitsOf FP.Core.b64 4607182418800017408 = FP.Core.one64 by decide +kernel] at h2
    exact h2
  refine Int32.toInt.inj ?_
  show (FP.Core.d2i x).toInt = _
  rw [FP.Core.d2i_val h, Nat.div_eq_of_lt h1]
  cases FP.Core.sgn (FP.Core.val64 x) <;> decide
/-- the quota: between - 0.05 and 50 -/
def QB (q : UInt64) : Prop := FP.Core.val64 q ≠ .nan ∧ -(ud 4587366580439587226 : Int) ≤ zv q ∧ zv q ≤ (ud 4632233691727265792 : Int)
theorem nf_50 : NF 4632233691727265792 := by unfold NF; decide +kernel
theorem QB.fin {q : UInt64} (h : QB q) : FP.Core.DFin q := fin_abs h.1 nf_50 (by
  have h1 := h.2.1
  have h2 := h.2.2
  have h3 : ud 4587366580439587226 ≤ ud 4632233691727265792 := by decide +kernel
  omega)
theorem QB_nn {q : UInt64} (h : q.toNat ≤ 4632233691727265792) : QB q := by
  have n : NF q := by unfold NF; omega
  refine ⟨n.nn.ne, ?_, ?_⟩
  · rw [n.nn.uz]; omega
  · rw [n.nn.uz]
    have := ud_of_le (v := 4632233691727265792) h
    omega
theorem quarter {l : UInt64} (hl : LB l) : (FP.dmul 4598175219545276416 l).toNat ≤ 4632233691727265792 := dmul_le (v := 4632233691727265792) (by unfold NF; decide +kernel) hl.nf nf_50.nn (by
  refine Nat.le_trans (Nat.mul_le_mul_left _ hl.ud) ?_
  decide +kernel)
theorem quv_QB {m n : Nat} {h : Nat → UInt64} (hb : HB m n h) : QB (quv h (elO h n)) := by
  cases ho : elO h n with
  | none => exact QB_nn (q := 0) (by decide +kernel)
  | some b => exact QB_nn (quarter (hb.2 b (elO_lt h n b ho)).1)
theorem quv_n64 {m n : Nat} {h : Nat → UInt64} (hb : HB m n h) : ∀ b, b < n → vf_n64 (FP.dmul 4598175219545276416 (h b)) := fun b hbn => by
  have h1 := quarter (hb.2 b hbn).1
  exact (show NN _ by unfold NN; omega : NN (FP.dmul 4598175219545276416 (h b))).n64
theorem nf_01 : NF 4591870180066957722 := by unfold NF; decide +kernel
theorem gt_zv {x : UInt64} (h : FP.Core.val64 x ≠ .nan) : FP.dcmp x 0 = some .gt ↔ 0 < zv x := by
  rw [cmp_zv h ne_0, zv_0]
  exact ⟨fun e => Int.compare_eq_gt.mp (Option.some.inj e), fun e => congrArg some (Int.compare_eq_gt.mpr e)⟩
theorem leB_ne {m n : Nat} {h : Nat → UInt64} {q : UInt64} (hb : HB m n h) (hq : QB q) {b : Nat} (hbn : b < n) : FP.Core.val64 (leB h q b) ≠ .nan := by
  unfold leB
  rcases lesv_or q (h b) with e | e
  · rw [e]; exact hq.1
  · rw [e]; exact (hb.2 b hbn).1.nf.nn.ne
theorem rd_ok {m n : Nat} {h : Nat → UInt64} {q : UInt64} (hb : HB m n h) (hq : QB q) : rdok h n q := by
  intro b hbn
  have bb := hb.2 b hbn
  have hl := leB_ne hb hq hbn
  refine ⟨cmp_ne bb.2.1.1.nn.ne (NN.ne (by unfold NN; decide +kernel)), cmp_ne bb.2.2.2.1.nn.ne (NN.ne (by unfold NN; decide +kernel)), cmp_ne hq.1 bb.1.nf.nn.ne, cmp_ne hl ne_0, fun hg => ?_⟩
  exact (nn_ddiv (nn_pos hl ((gt_zv hl).mp hg)) nf_01 (by decide +kernel)).n64
theorem elO_gt {h : Nat → UInt64} : ∀ (k b : Nat), elO h k = some b → FP.dcmp (h b) 0 = some .gt
  | 0, b, e => nomatch e
  | k + 1, b, e => by
    unfold elO at e
    split at e
    · rename_i h1
      cases e
      unfold elt at h1
      rw [Bool.and_eq_true] at h1
      exact of_decide_eq_true h1.1
    · exact elO_gt k b e
theorem rd_M {m n : Nat} {h : Nat → UInt64} {q : UInt64} (df : Int32) (hb : HB m n h) (hq : QB q) : rdM h n df q := by
  intro b ho _
  have hbn := elO_lt h n b ho
  have hl := leB_ne hb hq hbn
  by_cases hg : FP.dcmp (leB h q b) 0 = some .gt
  · exact ⟨(nn_ddiv (nn_pos hl ((gt_zv hl).mp hg)) nf_01 (by decide +kernel)).n64, fun h9 => absurd hg h9⟩
  · have hbg := elO_gt n b ho
    have e : leB h q b = q := by
      unfold leB at hg ⊢
      rcases lesv_or q (h b) with e | e
      · exact e
      · rw [e] at hg; exact absurd hbg hg
    rw [e] at hg ⊢
    have hz : ¬ 0 < zv q := fun h9 => hg ((gt_zv hq.1).mpr h9)
    have h1 := hq.2.1
    have p := ddiv_mle (v := 4603579539098121011) hq.fin nf_01 (by decide +kernel) (by
      refine Nat.le_trans (Nat.mul_le_mul_right _ (show (zv q).natAbs ≤ ud 4587366580439587226 by omega)) ?_
      decide +kernel)
    have hn : FP.Core.val64 (FP.ddiv q 4591870180066957722) ≠ .nan := (FP.Core.ne_nan _).mpr (Nat.le_trans p (by decide +kernel))
    exact ⟨n64_of hn, fun _ => d2i_small hn (Nat.lt_of_le_of_lt p (by decide +kernel))⟩
theorem bot_all : ∀ k : Fin 1001, (botv (nI k.val)).toNat ≤ 4636737291354636288 ∧ (k.val = 0 ∨ (ud (FP.dsub (botv (nI k.val)) 4585925428558828667) * 2 ^ 1074 ≤ ud (FP.dsub (FP.i2d (nI k.val)) 4591870180066957722) * ud 4591870180066957722 ∧ (FP.dsub (FP.i2d (nI k.val)) 4591870180066957722).toNat < (FP.i2d (nI k.val)).toNat ∧ ud (botv (nI k.val)) ≤ ud (FP.dsub (botv (nI k.val)) 4585925428558828667) + ud 4587366580439587226)) := by decide +kernel
