/-! REAL VALUES 2: sizes of results, constants, sums and mixing -/
def BD (k : Nat) (x : UInt64) : Prop := NF x ∧ ud x ≤ 2 ^ k
theorem BD.mono {j k : Nat} {x : UInt64} (h : BD j x) (hk : j ≤ k) : BD k x := ⟨h.1, Nat.le_trans h.2 (Nat.pow_le_pow_right (by decide) hk)⟩
theorem VB.bd {m : Nat} {x : UInt64} (h : VB m x) : BD (1074 + m) x := h
theorem p1082 : 200 * 2 ^ 1074 ≤ 2 ^ 1082 := by decide +kernel
theorem LB.bd {x : UInt64} (h : LB x) : BD 1082 x := ⟨h.nf, Nat.le_trans h.ud p1082⟩
theorem big (k : Nat) (hk : k ≤ 2090) : ∃ V : UInt64, NF V ∧ ud V = 2 ^ k := by
  by_cases h : k ≤ 2045
  · obtain ⟨V, f, u⟩ := mk_units 1 k (by decide) h
    exact ⟨V, f, by rw [u, Nat.one_mul]⟩
  · obtain ⟨V, f, u⟩ := mk_units (2 ^ 50) (k - 50) (by decide) (by omega)
    exact ⟨V, f, by rw [u, ← Nat.pow_add]; congr 1; omega⟩
theorem nf_top {x V : UInt64} (hx : NN x) (hV : NF V) (h : ud x ≤ ud V) : NF x := by
  rw [ud_le] at h
  unfold NF at hV ⊢
  omega
theorem bd_add {j : Nat} {a b : UInt64} (ha : BD j a) (hb : BD j b) (hj : j ≤ 2080) : BD (j + 1) (FP.dadd a b) := by
  obtain ⟨V, f, u⟩ := big (j + 1) (by omega)
  have h1 := ud_of_le (dadd_le ha.1 hb.1 f.nn (by rw [u, Nat.pow_succ]; have := ha.2; have := hb.2; omega))
  exact ⟨nf_top (nn_dadd ha.1.nn hb.1.nn) f h1, by rw [← u]; exact h1⟩
theorem bd_mul {j k : Nat} {a b : UInt64} (ha : BD j a) (hb : BD k b) (h1 : 1074 ≤ j + k) (h2 : j + k ≤ 3150) : BD (j + k - 1074) (FP.dmul a b) := by
  obtain ⟨V, f, u⟩ := big (j + k - 1074) (by omega)
  have h1 := ud_of_le (dmul_le ha.1 hb.1 f.nn (by
    rw [u, ← Nat.pow_add, show j + k - 1074 + 1074 = j + k by omega, Nat.pow_add]
    exact Nat.mul_le_mul ha.2 hb.2))
  exact ⟨nf_top (nn_dmulF ha.1 hb.1) f h1, by rw [← u]; exact h1⟩
theorem bd_r {k : Nat} {x : UInt64} (h : BD k x) (hk : k ≤ 2090) : ud x ≤ 2 ^ 2090 := Nat.le_trans h.2 (Nat.pow_le_pow_right (by decide) hk)
/-- a constant's value -/
theorem rv_c {x : UInt64} (M a b N : Nat) (hx : NN x) (hab : a + b = 1074) (h : ud x = M * 2 ^ a) (hN : 2 ^ b = N) : rv x * (N : Rat) = (M : Rat) := by
  rw [rv_u hx, h, Rat.natCast_mul, ← hN]
  have h1 : ((2 ^ a : Nat) : Rat) * ((2 ^ b : Nat) : Rat) = QU := by
    rw [← Rat.natCast_mul, ← Nat.pow_add, hab]
    rfl
  have h2 := eta_QU
  generalize ((2 ^ a : Nat) : Rat) = A at *
  generalize ((2 ^ b : Nat) : Rat) = B at *
  generalize ((M : Nat) : Rat) = C at *
  grind
theorem rv_one : rv 4607182418800017408 = 1 := by
  have h := rv_c (x := 4607182418800017408) 1 1074 0 1 (by unfold NN; decide +kernel) (by decide) (by decide +kernel) (by decide)
  simpa using h
theorem rv_half : rv 4602678819172646912 * 2 = 1 := by
  have h := rv_c (x := 4602678819172646912) 1 1073 1 2 (by unfold NN; decide +kernel) (by decide) (by decide +kernel) (by decide)
  simpa using h
theorem rv_c6 : rv 4517329193108106637 * 4722366482869645213696 = 4722366482869645 := by
  have h := rv_c (x := 4517329193108106637) 4722366482869645 1002 72 4722366482869645213696 (by unfold NN; decide +kernel) (by decide) (by decide +kernel) (by decide)
  simpa using h
/-- eta is tiny -/
theorem eta_le (b N : Nat) (hb : b ≤ 1074) (hN : 2 ^ b = N) : eta * (N : Rat) ≤ 1 := by
  have h1 : ((2 ^ b : Nat) : Rat) ≤ QU := Rat.natCast_le_natCast.mpr (Nat.pow_le_pow_right (by decide) hb)
  have h2 := eta_QU
  have h3 := Rat.mul_le_mul_of_nonneg_left h1 (Rat.le_of_lt eta_pos)
  rw [← hN]
  generalize ((2 ^ b : Nat) : Rat) = B at *
  grind
theorem LB.r {x : UInt64} (h : LB x) : 0 ≤ rv x ∧ rv x ≤ 200 := by
  refine ⟨rv_0 h.nf.nn, ?_⟩
  have h1 := scaleN h.ud (Rat.le_of_lt eta_pos)
  rw [← rv_u h.nf.nn] at h1
  have h2 := eta_QU
  rw [Rat.natCast_mul] at h1
  have h3 : ((2 ^ 1074 : Nat) : Rat) = QU := rfl
  rw [h3] at h1
  have h4 : ((200 : Nat) : Rat) = 200 := rfl
  rw [h4] at h1
  generalize QU = Q at *
  generalize eta = x at *
  grind
/-- mixing, in values -/
theorem mix_r {v x w y : UInt64} {m : Nat} (hv : LB v) (hw : LB w) (hw0 : 0 < w.toNat) (hx : VB m x) (hy : VB m y) (hm : m ≤ 800) :
    NF (FP.dadd v w) ∧ (rv (FP.dadd v w) ≤ (rv v + rv w) + (rv v + rv w) / 4503599627370496 ∧ (rv v + rv w) - (rv v + rv w) / 4503599627370496 ≤ rv (FP.dadd v w)) ∧
    rv (mixv v x w y) * rv (FP.dadd v w) ≤ (rv v * rv x + rv w * rv y) + 4 * (rv v * rv x + rv w * rv y) / 4503599627370496 + 1000 * eta ∧
    (rv v * rv x + rv w * rv y) - 4 * (rv v * rv x + rv w * rv y) / 4503599627370496 - 1000 * eta ≤ rv (mixv v x w y) * rv (FP.dadd v w) := by
  obtain ⟨h1, h2⟩ := mix_ok hv hw hw0 hx hy hm
  have b1 := bd_add hv.bd hw.bd (by decide)
  have e1 := add_err hv.nf hw.nf (bd_r b1 (by decide))
  have b2 := bd_mul hv.bd hx.bd (by omega) (by omega)
  have e2 := mul_err hv.nf hx.1 (bd_r b2 (by omega))
  have b3 := bd_mul hw.bd hy.bd (by omega) (by omega)
  have e3 := mul_err hw.nf hy.1 (bd_r b3 (by omega))
  have b4 := bd_add b2 b3 (by omega)
  have e4 := add_err b2.1 b3.1 (bd_r b4 (by omega))
  have b5 := h2.bd
  have hg : 0 < (FP.dadd v w).toNat := Nat.lt_of_lt_of_le hw0 (dadd_geR hv.nf hw.nf)
  have e5 := div_err b4.1 b1.1 hg (bd_r b5 (by omega))
  have e6 := eta_le 60 1152921504606846976 (by decide) (by decide)
  have e7 := eta_pos
  have r1 := hv.r
  have r2 := hw.r
  have r3 := rv_0 hx.1.nn
  have r4 := rv_0 hy.1.nn
  have p1 := Rat.mul_nonneg r1.1 r3
  have p2 := Rat.mul_nonneg r2.1 r4
  have r5 := rv_0 b1.1.nn
  have r6 : rv (FP.dadd v w) ≤ 401 := by grind
  have r7 := Rat.mul_le_mul_of_nonneg_left r6 (Rat.le_of_lt e7)
  have r8 := Rat.mul_nonneg (Rat.le_of_lt e7) r5
  refine ⟨b1.1, e1, ?_⟩
  unfold mixv
  generalize rv (FP.ddiv (FP.dadd (FP.dmul v x) (FP.dmul w y)) (FP.dadd v w)) * rv (FP.dadd v w) = Z at *
  generalize rv (FP.dadd (FP.dmul v x) (FP.dmul w y)) = S at *
  generalize rv (FP.dmul v x) = P1 at *
  generalize rv (FP.dmul w y) = P2 at *
  generalize rv v * rv x = X1 at *
  generalize rv w * rv y = X2 at *
  generalize rv (FP.dadd v w) = N at *
  generalize eta = et at *
  have q : 2 * et * N = 2 * (et * N) := by grind
  rw [q] at e5
  generalize et * N = EN at *
  clear h1 h2 b1 b2 b3 b4 b5 hv hw hx hy e1 r1 r2
  constructor <;> grind
