/-! REAL VALUES: doubles as rationals, and how far an operation's answer lies from the exact one -/
theorem om1 {N cw w m : Nat} (hd : cw + m = N) (hm : m < w) (h1 : w * 4503599627370496 ≤ N) : cw ≤ N ∧ N ≤ cw + w ∧ N * 4503599627370496 ≤ cw * 4503599627370496 + N ∧ (cw + w) * 4503599627370496 ≤ N * 4503599627370496 + N := ⟨by grind, by grind, by grind, by grind⟩
theorem om2 {N v1 v2 r : Nat} (h3 : N * 4503599627370496 ≤ v1 * 4503599627370496 + N) (h4 : v2 * 4503599627370496 ≤ N * 4503599627370496 + N) (h5 : r ≤ v2) (h6 : v1 ≤ r) : r * 4503599627370496 ≤ N * 4503599627370496 + N ∧ N * 4503599627370496 ≤ r * 4503599627370496 + N := ⟨by grind, by grind⟩
theorem om3 {N v1 v2 r : Nat} (h3 : N * 4503599627370496 ≤ v1 * 4503599627370496 + N) (h4 : v2 * 4503599627370496 ≤ (N + 1) * 4503599627370496 + (N + 1)) (h5 : r ≤ v2) (h6 : v1 ≤ r) : r * 4503599627370496 ≤ N * 4503599627370496 + N + 4503599627370497 ∧ N * 4503599627370496 ≤ r * 4503599627370496 + N := ⟨by grind, by grind⟩
theorem om4 {P Q QN rQ m : Nat} (hd : QN + m = P) (hm : m < Q) (h9 : rQ * 4503599627370496 ≤ QN * 4503599627370496 + QN + 4503599627370497 * Q) (h10 : QN * 4503599627370496 ≤ rQ * 4503599627370496 + QN) : rQ * 4503599627370496 ≤ P * 4503599627370496 + P + 2 * (Q * 4503599627370496) ∧ P * 4503599627370496 ≤ rQ * 4503599627370496 + P + 2 * (Q * 4503599627370496) := ⟨by grind, by grind⟩
theorem updn (N : Nat) (hN : N < 2 ^ 2095) : ∃ V1 V2 : UInt64, NF V1 ∧ NF V2 ∧ ud V1 ≤ N ∧ N ≤ ud V2 ∧ N * 4503599627370496 ≤ ud V1 * 4503599627370496 + N ∧ ud V2 * 4503599627370496 ≤ N * 4503599627370496 + N := by
  by_cases h : N < 2 ^ 53
  · obtain ⟨V, f, u⟩ := mk_units N 0 h (by decide)
    rw [Nat.pow_zero, Nat.mul_one] at u
    exact ⟨V, V, f, f, by omega, by omega, by omega, by omega⟩
  · have hn0 : N ≠ 0 := by omega
    have h1 := Nat.log2_self_le hn0
    have h2 := @Nat.lt_log2_self N
    have h3 : 53 ≤ N.log2 := (Nat.le_log2 hn0).mpr (by omega)
    have h4 : N.log2 < 2095 := (Nat.log2_lt hn0).mpr hN
    obtain ⟨k, hk⟩ : ∃ k, N.log2 = k + 52 := ⟨N.log2 - 52, by omega⟩
    rw [hk] at h1 h2 h3 h4
    rw [Nat.pow_add] at h1
    rw [show k + 52 + 1 = k + 53 by omega, Nat.pow_add] at h2
    have hw : 0 < 2 ^ k := Nat.two_pow_pos k
    have hd := Nat.div_add_mod N (2 ^ k)
    have hm := Nat.mod_lt N hw
    have hc1 : N / 2 ^ k < 2 ^ 53 := Nat.div_lt_of_lt_mul h2
    have hc2 : 2 ^ 52 ≤ N / 2 ^ k := (Nat.le_div_iff_mul_le hw).mpr (by rw [Nat.mul_comm]; exact h1)
    generalize hc : N / 2 ^ k = c at *
    obtain ⟨V1, f1, u1⟩ := mk_units c k hc1 (by omega)
    obtain ⟨V2, f2, u2⟩ : ∃ V2 : UInt64, NF V2 ∧ ud V2 = (c + 1) * 2 ^ k := by
      by_cases hc3 : c + 1 < 2 ^ 53
      · exact mk_units (c + 1) k hc3 (by omega)
      · obtain ⟨V, f, u⟩ := mk_units (2 ^ 52) (k + 1) (by decide) (by omega)
        refine ⟨V, f, ?_⟩
        rw [u, Nat.pow_succ 2 k, show c + 1 = 2 ^ 52 * 2 by omega, Nat.mul_assoc, Nat.mul_comm (2 ^ k) 2]
    rw [Nat.add_mul, Nat.one_mul] at u2
    rw [Nat.mul_comm] at hd
    obtain ⟨o1, o2, o3, o4⟩ := om1 hd hm h1
    rw [← u1] at o1 o3
    rw [← u2] at o2 o4
    exact ⟨V1, V2, f1, f2, o1, o2, o3, o4⟩
theorem big_no {r : Nat} (hr : r ≤ 2 ^ 2090) (h : 2 ^ 50 * 2 ^ 2041 ≤ r) : False := by
  have h1 := Nat.le_trans h hr
  exact absurd h1 (by decide +kernel)
theorem core1 {N r : Nat} (hle : ∀ V : UInt64, NF V → N ≤ ud V → r ≤ ud V) (hge : ∀ V : UInt64, NF V → ud V ≤ N → ud V ≤ r) (hr : r ≤ 2 ^ 2090) : r * 4503599627370496 ≤ N * 4503599627370496 + N ∧ N * 4503599627370496 ≤ r * 4503599627370496 + N := by
  have hN : N < 2 ^ 2095 := by
    refine Nat.lt_of_not_le fun h => ?_
    obtain ⟨V, f, u⟩ := mk_units (2 ^ 50) 2041 (by decide) (by decide)
    have h1 := hge V f (by rw [u]; exact Nat.le_trans (by decide +kernel) h)
    rw [u] at h1
    exact big_no hr h1
  obtain ⟨V1, V2, f1, f2, h1, h2, h3, h4⟩ := updn N hN
  have h5 := hle V2 f2 h2
  have h6 := hge V1 f1 h1
  exact om2 h3 h4 h5 h6
theorem coreQ {P Q r : Nat} (hQ : 0 < Q) (hle : ∀ V : UInt64, NF V → P ≤ ud V * Q → r ≤ ud V) (hge : ∀ V : UInt64, NF V → ud V * Q ≤ P → ud V ≤ r) (hr : r ≤ 2 ^ 2090) : r * Q * 4503599627370496 ≤ P * 4503599627370496 + P + 2 * (Q * 4503599627370496) ∧ P * 4503599627370496 ≤ r * Q * 4503599627370496 + P + 2 * (Q * 4503599627370496) := by
  have hdm := Nat.div_add_mod P Q
  have hm := Nat.mod_lt P hQ
  have hN : P / Q < 2 ^ 2094 := by
    refine Nat.lt_of_not_le fun h => ?_
    obtain ⟨V, f, u⟩ := mk_units (2 ^ 50) 2041 (by decide) (by decide)
    have h0 : 2 ^ 50 * 2 ^ 2041 ≤ P / Q := Nat.le_trans (by decide +kernel) h
    have h1 := hge V f (by rw [u]; exact (Nat.le_div_iff_mul_le hQ).mp h0)
    rw [u] at h1
    exact big_no hr h1
  have hN2 : P / Q + 1 < 2 ^ 2095 := by
    have : (2 : Nat) ^ 2094 < 2 ^ 2095 := by decide +kernel
    omega
  generalize P / Q = N at *
  obtain ⟨V1, _, f1, _, h1, _, h3, _⟩ := updn N (by omega)
  obtain ⟨_, V2, _, f2, _, h2, _, h4⟩ := updn (N + 1) hN2
  have h5 := hle V2 f2 (by
    have := Nat.mul_le_mul_right Q h2
    rw [Nat.add_mul, Nat.one_mul, Nat.mul_comm N Q] at this
    omega)
  have h6 := hge V1 f1 (by
    have := Nat.mul_le_mul_right Q h1
    rw [Nat.mul_comm N Q] at this
    omega)
  obtain ⟨h7, h8⟩ := om3 h3 h4 h5 h6
  have h9 := Nat.mul_le_mul_right Q h7
  have h10 := Nat.mul_le_mul_right Q h8
  rw [Nat.add_mul, Nat.add_mul, Nat.mul_right_comm r, Nat.mul_right_comm N, Nat.mul_comm N Q] at h9
  rw [Nat.add_mul, Nat.mul_right_comm r, Nat.mul_right_comm N, Nat.mul_comm N Q] at h10
  exact om4 hdm hm h9 h10
def QU : Rat := ((2 ^ 1074 : Nat) : Rat)
def eta : Rat := QU⁻¹
theorem QU_pos : 0 < QU := Rat.natCast_pos.mpr (Nat.two_pow_pos 1074)
theorem eta_pos : 0 < eta := Rat.inv_pos.mpr QU_pos
theorem eta_QU : eta * QU = 1 := Rat.inv_mul_cancel QU (Rat.ne_of_gt QU_pos)
def rv (x : UInt64) : Rat := ((zv x : Int) : Rat) * eta
theorem rv_u {x : UInt64} (h : NN x) : rv x = ((ud x : Nat) : Rat) * eta := by
  unfold rv
  rw [h.uz, Rat.intCast_natCast]
theorem rv_0 {x : UInt64} (h : NN x) : 0 ≤ rv x := by
  rw [rv_u h]
  exact Rat.mul_nonneg (Rat.natCast_nonneg) (Rat.le_of_lt eta_pos)
theorem rv_le {x y : UInt64} : rv x ≤ rv y ↔ zv x ≤ zv y := by
  unfold rv
  constructor
  · intro h
    exact Rat.intCast_le_intCast.mp (Rat.le_of_mul_le_mul_right h eta_pos)
  · intro h
    exact Rat.mul_le_mul_of_nonneg_right (Rat.intCast_le_intCast.mpr h) (Rat.le_of_lt eta_pos)
theorem rv_lt {x y : UInt64} : rv x < rv y ↔ zv x < zv y := by
  rw [← Rat.not_le, rv_le, Int.not_le]
theorem rv_leN {x y : UInt64} (hx : NN x) (hy : NN y) : rv x ≤ rv y ↔ x.toNat ≤ y.toNat := by
  rw [rv_le, hx.uz, hy.uz, Int.ofNat_le, ud_le]
theorem rv_ltN {x y : UInt64} (hx : NN x) (hy : NN y) : rv x < rv y ↔ x.toNat < y.toNat := by
  rw [rv_lt, hx.uz, hy.uz, Int.ofNat_lt, ud_lt]
theorem nn_r0 : NN 0 := by unfold NN; decide +kernel
theorem rv_zero : rv 0 = 0 := by
  unfold rv
  rw [zv_0]
  exact Rat.zero_mul _
/-- comparisons by values -/
theorem cmp_rv {a b : UInt64} (ha : FP.Core.val64 a ≠ .nan) (hb : FP.Core.val64 b ≠ .nan) : (FP.dcmp a b = some .lt ↔ rv a < rv b) ∧ (FP.dcmp a b = some .gt ↔ rv b < rv a) ∧ (FP.dcmp a b = some .eq ↔ rv a = rv b) := by
  have he : rv a = rv b ↔ zv a = zv b := by
    constructor
    · intro h
      have h1 := rv_le.mp (show rv a ≤ rv b by rw [h]; exact Rat.le_refl)
      have h2 := rv_le.mp (show rv b ≤ rv a by rw [h]; exact Rat.le_refl)
      omega
    · intro h
      unfold rv
      rw [h]
  rw [cmp_zv ha hb, rv_lt, rv_lt, he]
  refine ⟨?_, ?_, ?_⟩
  · rw [Option.some_inj, Int.compare_eq_lt]
  · rw [Option.some_inj, Int.compare_eq_gt]
  · rw [Option.some_inj, Int.compare_eq_eq]
theorem scaleN {c : Rat} {R N : Nat} (h : R ≤ N) (hc : 0 ≤ c) : (R : Rat) * c ≤ (N : Rat) * c := Rat.mul_le_mul_of_nonneg_right (Rat.natCast_le_natCast.mpr h) hc
theorem add_err {a b : UInt64} (ha : NF a) (hb : NF b) (hr : ud (FP.dadd a b) ≤ 2 ^ 2090) : rv (FP.dadd a b) ≤ (rv a + rv b) + (rv a + rv b) / 4503599627370496 ∧ (rv a + rv b) - (rv a + rv b) / 4503599627370496 ≤ rv (FP.dadd a b) := by
  obtain ⟨h1, h2⟩ := core1 (N := ud a + ud b) (r := ud (FP.dadd a b)) (fun V f h => ud_of_le (dadd_le ha hb f.nn h)) (fun V f h => ud_of_le (dadd_ge ha hb f.nn h)) hr
  rw [rv_u ha.nn, rv_u hb.nn, rv_u (nn_dadd ha.nn hb.nn)]
  have h3 := scaleN h1 (Rat.le_of_lt eta_pos)
  have h4 := scaleN h2 (Rat.le_of_lt eta_pos)
  simp only [Rat.natCast_add, Rat.natCast_mul, Rat.natCast_ofNat] at h3 h4
  generalize ((ud (FP.dadd a b) : Nat) : Rat) = R at *
  generalize ((ud a : Nat) : Rat) = A at *
  generalize ((ud b : Nat) : Rat) = B at *
  generalize eta = x at *
  constructor <;> grind
theorem sub_err {a b : UInt64} (ha : NF a) (hb : NF b) (hab : b.toNat ≤ a.toNat) (hr : ud a ≤ 2 ^ 2090) : NF (FP.dsub a b) ∧ rv (FP.dsub a b) ≤ (rv a - rv b) + (rv a - rv b) / 4503599627370496 ∧ (rv a - rv b) - (rv a - rv b) / 4503599627370496 ≤ rv (FP.dsub a b) := by
  have h0 := ud_le.mpr hab
  by_cases he : b.toNat = a.toNat
  · have : b = a := UInt64.toNat_inj.mp he
    subst this
    have h1 := zsub_ge ha.fin ha.fin ne_0 (by rw [zv_0]; omega)
    have h2 := zsub_le ha.fin ha.fin ne_0 (by rw [zv_0]; omega)
    have h3 : rv (FP.dsub b b) = 0 := by
      unfold rv
      rw [show zv (FP.dsub b b) = 0 by rw [zv_0] at h1 h2; omega]
      exact Rat.zero_mul _
    rw [h3]
    refine ⟨?_, by grind, by grind⟩
    obtain ⟨s, c, q, hf⟩ := ha.fin
    rw [show FP.dsub b b = FP.dconst0 from FP.Core.dsub_self hf]
    unfold NF
    decide +kernel
  · obtain ⟨p1, p2, p3⟩ := dsub_pos ha hb (by omega)
    have hle : ∀ V : UInt64, NF V → ud a - ud b ≤ ud V → ud (FP.dsub a b) ≤ ud V := fun V f h => by
      have h1 := zsub_le ha.fin hb.fin f.nn.ne (by rw [ha.nn.uz, hb.nn.uz, f.nn.uz]; omega)
      rw [p1.nn.uz, f.nn.uz] at h1
      omega
    have hge : ∀ V : UInt64, NF V → ud V ≤ ud a - ud b → ud V ≤ ud (FP.dsub a b) := fun V f h => by
      have h1 := zsub_ge ha.fin hb.fin f.nn.ne (by rw [ha.nn.uz, hb.nn.uz, f.nn.uz]; omega)
      rw [p1.nn.uz, f.nn.uz] at h1
      omega
    have hN : ud a - ud b < 2 ^ 2095 := Nat.lt_of_le_of_lt (Nat.le_trans (Nat.sub_le _ _) hr) (by decide +kernel)
    obtain ⟨V1, V2, f1, f2, k1, k2, k3, k4⟩ := updn (ud a - ud b) hN
    have k5 := hle V2 f2 k2
    have k6 := hge V1 f1 k1
    obtain ⟨h1, h2⟩ := om2 k3 k4 k5 k6
    refine ⟨p1, ?_⟩
    rw [rv_u ha.nn, rv_u hb.nn, rv_u p1.nn]
    have hc : ((ud a - ud b : Nat) : Rat) = ((ud a : Nat) : Rat) - ((ud b : Nat) : Rat) := by
      have : ((ud a - ud b : Nat) : Rat) + ((ud b : Nat) : Rat) = ((ud a : Nat) : Rat) := by
        rw [← Rat.natCast_add, Nat.sub_add_cancel h0]
      grind
    have h3 := scaleN h1 (Rat.le_of_lt eta_pos)
    have h4 := scaleN h2 (Rat.le_of_lt eta_pos)
    simp only [Rat.natCast_add, Rat.natCast_mul, Rat.natCast_ofNat, hc] at h3 h4
    generalize ((ud (FP.dsub a b) : Nat) : Rat) = R at *
    generalize ((ud a : Nat) : Rat) = A at *
    generalize ((ud b : Nat) : Rat) = B at *
    generalize eta = x at *
    constructor <;> grind
theorem dmul_ge {a b v : UInt64} (ha : NF a) (hb : NF b) (hv : NN v) (h : ud v * 2 ^ 1074 ≤ ud a * ud b) : v.toNat ≤ (FP.dmul a b).toNat := by
  obtain ⟨s, c, q, x1, x2, x3⟩ := nf_data ha
  obtain ⟨t, d, r, y1, y2, y3⟩ := nf_data hb
  obtain ⟨p1, p2, p3⟩ := FP.Core.product_units x2 y2
  have hd : FP.Core.decode FP.Core.b64 (FP.Core.dmul a b).toNat = FP.Core.roundRatio FP.Core.b64 (s != t) (c * d) 1 (q + r) := by
    show FP.Core.val64 (FP.Core.dmul a b) = _
    rw [FP.Core.val64_dmul, show FP.Core.val64 a = _ from x1, show FP.Core.val64 b = _ from y1, p1]
    rfl
  have h1 := FP.Core.mag_ge FP.Core.good_b64 hd (by decide) (e0 := 2 * FP.Core.b64.qmin) (by rw [FP.Core.qmin_b64]; decide) p2 (m := v.toNat) (by rw [FP.Core.infBits_b64]; exact hv) (by
    rw [p3, x3, y3, Nat.mul_one, show (FP.Core.b64.qmin - 2 * FP.Core.b64.qmin).toNat = 1074 by rw [FP.Core.qmin_b64]; decide]
    exact h)
  rw [FP.Core.mag_toNat64, Nat.mod_eq_of_lt (nn_dmulF ha hb).lt63] at h1
  exact h1
theorem ddiv_ge {a b v : UInt64} (ha : NF a) (hb : NF b) (h0 : 0 < b.toNat) (hv : NN v) (h : ud v * ud b ≤ ud a * 2 ^ 1074) : v.toNat ≤ (FP.ddiv a b).toNat := by
  obtain ⟨s, c, q, x1, x2, x3⟩ := nf_data ha
  obtain ⟨t, d, r, y1, y2, y3⟩ := nf_data hb
  have hq := FP.Core.qmin_neg FP.Core.good_b64
  have hb0 := ud_pos.mpr h0
  have hd0 : d ≠ 0 := by
    rintro rfl
    have h1 : FP.Core.zmag FP.Core.b64 (.fin t 0 r) = 0 := Nat.zero_mul _
    omega
  have hd : FP.Core.decode FP.Core.b64 (FP.Core.ddiv a b).toNat = FP.Core.roundRatio FP.Core.b64 (s != t) c d (q - r) := by
    show FP.Core.val64 (FP.Core.ddiv a b) = _
    rw [FP.Core.val64_ddiv, show FP.Core.val64 a = _ from x1, show FP.Core.val64 b = _ from y1]
    simp only [FP.Core.quotient, if_neg hd0]
  have hx1 := x2.2.1
  have hy1 := y2.2.1
  have h1 := FP.Core.mag_ge FP.Core.good_b64 hd (by omega) (e0 := 2 * FP.Core.b64.qmin - r) (by omega) (by omega) (m := v.toNat) (by rw [FP.Core.infBits_b64]; exact hv) (by
    have e1 : FP.Core.inUnits c (q - r) (2 * FP.Core.b64.qmin - r) = FP.Core.zmag FP.Core.b64 (.fin s c q) * 2 ^ (-FP.Core.b64.qmin).toNat := by
      show c * _ = c * _ * _
      rw [Nat.mul_assoc, ← Nat.pow_add]; congr 2; omega
    have e2 : 2 ^ (FP.Core.b64.qmin - (2 * FP.Core.b64.qmin - r)).toNat * d = FP.Core.zmag FP.Core.b64 (.fin t d r) := by
      show _ = d * _
      rw [Nat.mul_comm]; congr 2; omega
    rw [e1, Nat.mul_assoc, e2, x3, y3, show (-FP.Core.b64.qmin).toNat = 1074 by rw [FP.Core.qmin_b64]; decide]
    exact h)
  rw [FP.Core.mag_toNat64, Nat.mod_eq_of_lt (nn_ddiv ha.nn hb h0).lt63] at h1
  exact h1
theorem pow_QU : (((2 ^ 1074 : Nat) : Nat) : Rat) = QU := rfl
theorem mul_err {a b : UInt64} (ha : NF a) (hb : NF b) (hr : ud (FP.dmul a b) ≤ 2 ^ 2090) : rv (FP.dmul a b) ≤ rv a * rv b + rv a * rv b / 4503599627370496 + 2 * eta ∧ rv a * rv b - rv a * rv b / 4503599627370496 - 2 * eta ≤ rv (FP.dmul a b) := by
  obtain ⟨h1, h2⟩ := coreQ (P := ud a * ud b) (Q := 2 ^ 1074) (r := ud (FP.dmul a b)) (Nat.two_pow_pos 1074) (fun V f h => ud_of_le (dmul_le ha hb f.nn h)) (fun V f h => ud_of_le (dmul_ge ha hb f.nn h)) hr
  rw [rv_u ha.nn, rv_u hb.nn, rv_u (nn_dmulF ha hb)]
  have hx := Rat.le_of_lt eta_pos
  have hxx : 0 ≤ eta * eta := Rat.mul_nonneg hx hx
  generalize hw : 2 ^ 1074 = w at h1 h2
  have hw2 : ((w : Nat) : Rat) = QU := by rw [← hw]; rfl
  have h3 := scaleN h1 hxx
  have h4 := scaleN h2 hxx
  have h5 := eta_QU
  simp only [Rat.natCast_add, Rat.natCast_mul, Rat.natCast_ofNat, hw2] at h3 h4
  generalize ((ud (FP.dmul a b) : Nat) : Rat) = R at *
  generalize ((ud a : Nat) : Rat) = A at *
  generalize ((ud b : Nat) : Rat) = B at *
  generalize QU = y at *
  generalize eta = x at *
  have e1 : R * y * 4503599627370496 * (x * x) = R * x * 4503599627370496 := by grind
  have e2 : 2 * (y * 4503599627370496) * (x * x) = 2 * 4503599627370496 * x := by grind
  have e3 : A * B * (x * x) = (A * x) * (B * x) := by grind
  generalize hAB : (A * x) * (B * x) = Z at *
  constructor <;> grind
theorem div_err {a b : UInt64} (ha : NF a) (hb : NF b) (h0 : 0 < b.toNat) (hr : ud (FP.ddiv a b) ≤ 2 ^ 2090) : rv (FP.ddiv a b) * rv b ≤ rv a + rv a / 4503599627370496 + 2 * eta * rv b ∧ rv a - rv a / 4503599627370496 - 2 * eta * rv b ≤ rv (FP.ddiv a b) * rv b := by
  obtain ⟨h1, h2⟩ := coreQ (P := ud a * 2 ^ 1074) (Q := ud b) (r := ud (FP.ddiv a b)) (ud_pos.mpr h0) (fun V f h => ud_of_le (ddiv_le ha hb h0 h)) (fun V f h => ud_of_le (ddiv_ge ha hb h0 f.nn h)) hr
  rw [rv_u ha.nn, rv_u hb.nn, rv_u (nn_ddiv ha.nn hb h0)]
  have hx := Rat.le_of_lt eta_pos
  have hxx : 0 ≤ eta * eta := Rat.mul_nonneg hx hx
  generalize hw : 2 ^ 1074 = w at h1 h2
  have hw2 : ((w : Nat) : Rat) = QU := by rw [← hw]; rfl
  have h3 := scaleN h1 hxx
  have h4 := scaleN h2 hxx
  have h5 := eta_QU
  simp only [Rat.natCast_add, Rat.natCast_mul, Rat.natCast_ofNat, hw2] at h3 h4
  generalize ((ud (FP.ddiv a b) : Nat) : Rat) = R at *
  generalize ((ud a : Nat) : Rat) = A at *
  generalize ((ud b : Nat) : Rat) = B at *
  generalize QU = y at *
  generalize eta = x at *
  have e1 : A * y * (x * x) = A * x := by grind
  have e2 : R * B * (x * x) = R * x * (B * x) := by grind
  have e3 : B * (x * x) = x * (B * x) := by grind
  generalize hZ : R * x * (B * x) = Z at *
  generalize hY : x * (B * x) = Y at *
  constructor <;> grind
