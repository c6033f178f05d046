/-! what is drawn -/
theorem i2d_all : ∀ k : Fin 1001, (FP.i2d (nI k.val)).toNat ≤ 4652218415073722368 := by decide +kernel
theorem takv_le {h : Nat → UInt64} {n : Nat} {df : Int32} {q : UInt64} {x : Int32} : takv h n df q x ≤ x ∧ takv h n df q x ≤ rdv h n df q := by
  unfold takv
  split
  · rename_i h1
    rw [Int32.lt_iff_toInt_lt] at h1
    rw [Int32.le_iff_toInt_le, Int32.le_iff_toInt_le]
    omega
  · rename_i h1
    rw [Int32.lt_iff_toInt_lt] at h1
    rw [Int32.le_iff_toInt_le, Int32.le_iff_toInt_le]
    omega
theorem lesv_le {a b : UInt64} (ha : FP.Core.val64 a ≠ .nan) (hb : FP.Core.val64 b ≠ .nan) : zv (lesv a b) ≤ zv a := by
  unfold lesv
  split
  · exact Int.le_refl _
  · rename_i h1
    rw [cmp_zv ha hb] at h1
    have h2 : ¬ zv a < zv b := fun h => h1 (congrArg some (Int.compare_eq_lt.mpr h))
    omega
theorem i2d_nn {k : Nat} (hk : k ≤ 1000) : NN (FP.i2d (nI k)) := by
  have h := i2d_all ⟨k, by omega⟩
  unfold NN; exact Nat.le_trans h (by decide)
theorem bot_k {k : Nat} (hk : k ≤ 1000) : (botv (nI k)).toNat ≤ 4636737291354636288 ∧ (k = 0 ∨ (ud (FP.dsub (botv (nI k)) 4585925428558828667) * 2 ^ 1074 ≤ ud (FP.dsub (FP.i2d (nI k)) 4591870180066957722) * ud 4591870180066957722 ∧ (FP.dsub (FP.i2d (nI k)) 4591870180066957722).toNat < (FP.i2d (nI k)).toNat ∧ ud (botv (nI k)) ≤ ud (FP.dsub (botv (nI k)) 4585925428558828667) + ud 4587366580439587226)) := bot_all ⟨k, by omega⟩
/-- so many bottles are hardly more than there is -/
theorem bot_le {m n : Nat} {h : Nat → UInt64} {q : UInt64} {df x : Int32} (hb : HB m n h) (hq : QB q) (hx : ¬ badR 1 1000 x) (h0 : 0 < takv h n df q x) : (botv (takv h n df q x)).toNat ≤ 4636737291354636288 ∧ (ud (botv (takv h n df q x)) : Int) ≤ zv q + ud 4587366580439587226 := by
  obtain ⟨t1, t2⟩ := takv_le (h := h) (n := n) (df := df) (q := q) (x := x)
  obtain ⟨b, ho, hdf⟩ := rdv_pos (tak_pos h0)
  have hr0 : 0 < rdv h n df q := tak_pos h0
  generalize takv h n df q x = t at *
  have hx2 : x ≤ 1000 := by
    rw [Int32.le_iff_toInt_le]
    have h9 : ¬ 1000 < x := fun h9 => hx (Or.inr h9)
    rw [Int32.lt_iff_toInt_lt] at h9
    omega
  obtain ⟨k, hk, rfl⟩ := nI_of (x := t) (fun h9 => by rw [Int32.lt_iff_toInt_lt] at h9 h0; omega)
  have hk1 : k ≤ 1000 := by
    rw [Int32.le_iff_toInt_le] at hx2 t1
    rw [nI_toInt hk] at t1
    have : (1000 : Int32).toInt = 1000 := by decide
    omega
  have hk0 : k ≠ 0 := by
    rintro rfl
    exact absurd h0 (by decide)
  obtain ⟨a1, a2⟩ := bot_k hk1
  obtain ⟨a3, a4, a5⟩ := a2.resolve_left hk0
  refine ⟨a1, ?_⟩
  have hbn := elO_lt h n b ho
  have hl := leB_ne hb hq hbn
  have hll : zv (leB h q b) ≤ zv q := lesv_le hq.1 (hb.2 b hbn).1.nf.nn.ne
  -- what is ready
  rw [rdv_some ho, if_pos hdf] at t2 hr0
  split at t2
  · rw [if_pos (by assumption)] at hr0
    exact absurd hr0 (by decide)
  · rw [if_neg (by assumption)] at hr0
    split at t2
    · rename_i hg
      have hz := (gt_zv hl).mp hg
      have nl := nn_pos hl hz
      rw [nl.uz] at hll hz
      have hq50 := hq.2.2
      have nlf : NF (leB h q b) := nf_le nf_50 (ud_le.mp (by omega))
      have hD1 : (FP.ddiv (leB h q b) 4591870180066957722).toNat ≤ (4652218415073722368 : UInt64).toNat := ddiv_le nlf nf_01 (by decide +kernel) (by
        refine Nat.le_trans (Nat.mul_le_mul_right _ (show ud (leB h q b) ≤ ud 4632233691727265792 by omega)) ?_
        decide +kernel)
      have nD : NF (FP.ddiv (leB h q b) 4591870180066957722) := nf_le (v := 4652218415073722368) (by unfold NF; decide +kernel) hD1
      have hD0 : FP.dcmp (FP.ddiv (leB h q b) 4591870180066957722) 0 = some .gt ∨ FP.dcmp (FP.ddiv (leB h q b) 4591870180066957722) 0 = some .eq := by
        by_cases e : 0 < (FP.ddiv (leB h q b) 4591870180066957722).toNat
        · exact Or.inl ((ge_0 nD.nn).mpr e)
        · exact Or.inr ((cmp_nn nD.nn nn_0).2.1.mpr (by have : (0 : UInt64).toNat = 0 := by decide
                                                        omega))
      have hD2 : FP.dcmp (FP.ddiv (leB h q b) 4591870180066957722) 4746794007244308480 = some .lt := (cmp_nn nD.nn (show NN 4746794007244308480 by unfold NN; decide +kernel)).1.mpr (Nat.lt_of_le_of_lt hD1 (by decide +kernel))
      obtain ⟨d1, d2, -⟩ := FP.Core.d2i_pos hD0 hD2
      refine Classical.byContradiction fun hc => ?_
      have hc1 : ud (leB h q b) ≤ ud (FP.dsub (botv (nI k)) 4585925428558828667) := by omega
      have hc2 : (FP.ddiv (leB h q b) 4591870180066957722).toNat ≤ (FP.dsub (FP.i2d (nI k)) 4591870180066957722).toNat := ddiv_le nlf nf_01 (by decide +kernel) (Nat.le_trans (Nat.mul_le_mul_right _ hc1) a3)
      -- the whole number is below
      have i1 := FP.Core.DInt_zval (FP.Core.i2d_int (FP.Core.d2i (FP.ddiv (leB h q b) 4591870180066957722)))
      have i2 := FP.Core.DInt_zval (FP.Core.i2d_int (nI k))
      have hi2 : NN (FP.i2d (nI k)) := i2d_nn hk1
      have j1 : zv (FP.i2d (FP.d2i (FP.ddiv (leB h q b) 4591870180066957722))) ≤ zv (FP.ddiv (leB h q b) 4591870180066957722) := (FP.Core.dcmp_le.mp d2).2.2
      have j2 : zv (FP.i2d (nI k)) ≤ zv (FP.i2d (FP.d2i (FP.ddiv (leB h q b) 4591870180066957722))) := by
        show FP.Core.zval FP.Core.b64 (FP.Core.val64 (FP.Core.i2d (nI k))) ≤ FP.Core.zval FP.Core.b64 (FP.Core.val64 (FP.Core.i2d (FP.Core.d2i (FP.ddiv (leB h q b) 4591870180066957722))))
        rw [i1, i2]
        exact Int.mul_le_mul_of_nonneg_right (Int32.le_iff_toInt_le.mp t2) (Int.natCast_nonneg _)
      have j3 := Int.le_trans j2 j1
      rw [hi2.uz, nD.nn.uz] at j3
      have j4 := ud_le.mp (show ud (FP.i2d (nI k)) ≤ ud (FP.ddiv (leB h q b) 4591870180066957722) by omega)
      omega
    · rw [if_neg (by assumption)] at hr0
      exact absurd hr0 (by decide)
theorem dw_ok {m n : Nat} {h : Nat → UInt64} {q : UInt64} {df x : Int32} (hb : HB m n h) (hq : QB q) (hx : ¬ badR 1 1000 x) : dwok h n df q x := by
  intro b ho h0
  obtain ⟨b1, b2⟩ := bot_le hb hq hx h0
  have bb := (hb.2 b (elO_lt h n b ho)).1
  exact ⟨(nf_100 b1).nn.n64, n64_of (dsub_ne hq.fin (nf_100 b1).fin), n64_of (dsub_ne bb.nf.fin (nf_100 b1).fin), sub_cmp bb.nf (nf_100 b1)⟩
theorem dr_HB {m n : Nat} {h : Nat → UInt64} {q : UInt64} {df x : Int32} (hn : n ≤ 8) (hb : HB m n h) (hq : QB q) (hx : ¬ badR 1 1000 x) : HB m n (drH h n df q x) ∧ QB (drQ h n df q x) := by
  by_cases h0 : 0 < takv h n df q x
  · obtain ⟨b, ho, -⟩ := rdv_pos (tak_pos h0)
    obtain ⟨e1, e2, -⟩ := dr_yes (dk := fun _ => 0) ho h0
    obtain ⟨b1, b2⟩ := bot_le hb hq hx h0
    have hbn := elO_lt h n b ho
    have bb := hb.2 b hbn
    rw [e1, e2]
    constructor
    · unfold tkH
      split
      · rename_i hg
        obtain ⟨-, -, g3, -⟩ := sub_gt bb.1.nf (nf_100 b1) hg
        exact HB_set hb hbn hn (Nat.le_trans g3 bb.1) bb.2.1 bb.2.2.1 bb.2.2.2
      · exact HB_set hb hbn hn (by unfold LB; decide +kernel) vB_0 vB_0 vB_0
    · have hne := dsub_ne hq.fin (nf_100 b1).fin
      have q2 := hq.2.2
      have q1 := hq.2.1
      refine ⟨hne, ?_, ?_⟩
      · have h5 : zv (FP.dneg 4587366580439587226) = -(ud 4587366580439587226 : Int) := by decide +kernel
        rw [← h5]
        refine zsub_ge hq.fin (nf_100 b1).fin (by decide +kernel) ?_
        rw [h5, (nf_100 b1).nn.uz]
        omega
      · have h5 : zv 4632233691727265792 = (ud 4632233691727265792 : Int) := nf_50.nn.uz
        rw [← h5]
        refine zsub_le hq.fin (nf_100 b1).fin nf_50.nn.ne ?_
        rw [h5, (nf_100 b1).nn.uz]
        omega
  · have h1 : takv h n df q x ≤ 0 := by
      rw [Int32.lt_iff_toInt_lt] at h0
      rw [Int32.le_iff_toInt_le]
      omega
    obtain ⟨e1, e2, -⟩ := dr_no (dk := fun _ => 0) h1
    rw [e1, e2]
    exact ⟨hb, hq⟩
