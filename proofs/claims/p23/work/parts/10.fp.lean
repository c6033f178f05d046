/-! FLOATS: nonnegative doubles, their units, bounds of results (no NaN in this system) -/
def zv (x : UInt64) : Int := FP.Core.zval FP.Core.b64 (FP.Core.val64 x)
/-- not negative by its sign bit, no NaN, perhaps infinite -/
def NN (x : UInt64) : Prop := x.toNat ≤ 9218868437227405312
/-- .. and finite -/
def NF (x : UInt64) : Prop := x.toNat < 9218868437227405312
/-- in units of the least double -/
def ud (x : UInt64) : Nat := FP.Core.unitsOf FP.Core.b64 x.toNat
theorem NF.nn {x : UInt64} (h : NF x) : NN x := Nat.le_of_lt h
theorem NN.lt63 {x : UInt64} (h : NN x) : x.toNat < 2 ^ 63 := by unfold NN at h; omega
theorem NN.ne {x : UInt64} (h : NN x) : FP.Core.val64 x ≠ .nan := (FP.Core.ne_nan x).mpr (by have h2 := h.lt63; unfold NN at h; omega)
theorem NF.fin {x : UInt64} (h : NF x) : FP.Core.DFin x := (FP.Core.fin_bits x).mpr (by unfold NF at h; omega)
theorem n64_of {r : UInt64} (h : FP.Core.val64 r ≠ .nan) : vf_n64 r := by
  unfold vf_n64
  rw [UInt64.le_iff_toNat_le, FP.Core.mask_toNat]
  have h1 := (FP.Core.ne_nan r).mp h
  have h2 : (0x7ff0000000000000 : UInt64).toNat = 9218868437227405312 := by decide +kernel
  omega
theorem NN.n64 {r : UInt64} (h : NN r) : vf_n64 r := n64_of h.ne
theorem NN.sgn {x : UInt64} (h : NN x) : FP.Core.sgn (FP.Core.val64 x) = false := by
  rw [FP.Core.sgn_bits h.ne]
  exact decide_eq_false (by have := h.lt63; omega)
theorem NN.uz {x : UInt64} (h : NN x) : zv x = (ud x : Int) := by
  unfold zv FP.Core.zval ud
  rw [h.sgn, FP.Core.zmag_bits h.ne, Nat.mod_eq_of_lt h.lt63]
  rfl
theorem nn_of {x : UInt64} (h : FP.Core.val64 x ≠ .nan) (hs : FP.Core.sgn (FP.Core.val64 x) = false) : NN x := by
  have h1 := (FP.Core.ne_nan x).mp h
  rw [FP.Core.sgn_bits h] at hs
  have h2 : ¬ 2 ^ 63 ≤ x.toNat := of_decide_eq_false hs
  unfold NN
  omega
theorem nf_of {x : UInt64} (h : FP.Core.DFin x) (hs : FP.Core.sgn (FP.Core.val64 x) = false) : NF x := by
  have h1 := nn_of h.ne_nan hs
  have h2 := (FP.Core.fin_bits x).mp h
  have h3 := h1.lt63
  unfold NF
  omega
theorem ud_lt {x y : UInt64} : ud x < ud y ↔ x.toNat < y.toNat := FP.Core.unitsOf_lt_iff
theorem ud_le {x y : UInt64} : ud x ≤ ud y ↔ x.toNat ≤ y.toNat := FP.Core.unitsOf_le_iff
theorem sgn_sum {x y : FP.Core.Datum} (hx : FP.Core.sgn x = false) (hy : FP.Core.sgn y = false) : FP.Core.sgn (FP.Core.round FP.Core.b64 (FP.Core.exactSum x y)) = false := by
  cases x with
  | nan => rfl
  | inf s =>
    cases y with
    | nan => rfl
    | inf t =>
      have h1 : s = false := hx
      have h2 : t = false := hy
      subst h1; subst h2; rfl
    | fin t d r => exact hx
  | fin s c q =>
    cases y with
    | nan => rfl
    | inf t => exact hy
    | fin t d r =>
      have h1 : s = false := hx
      have h2 : t = false := hy
      subst h1; subst h2
      show FP.Core.sgn (FP.Core.roundRatio FP.Core.b64 (FP.Core.sumSign false false _) _ 1 _) = false
      rw [FP.Core.sgn_roundRatio]
      unfold FP.Core.sumSign
      split
      · rfl
      · exact decide_eq_false (by
          unfold FP.Core.sumUnits FP.Core.signed
          simp only [Bool.false_eq_true, if_false]
          omega)
theorem sgn_product {x y : FP.Core.Datum} (hx : FP.Core.sgn x = false) (hy : FP.Core.sgn y = false) : FP.Core.sgn (FP.Core.round FP.Core.b64 (FP.Core.exactProduct x y)) = false := by
  cases x with
  | nan => rfl
  | inf s =>
    have h1 : s = false := hx
    subst h1
    cases y with
    | nan => rfl
    | inf t =>
      have h2 : t = false := hy
      subst h2; rfl
    | fin t d r =>
      have h2 : t = false := hy
      subst h2
      unfold FP.Core.exactProduct
      simp only
      split <;> rfl
  | fin s c q =>
    have h1 : s = false := hx
    subst h1
    cases y with
    | nan => rfl
    | inf t =>
      have h2 : t = false := hy
      subst h2
      unfold FP.Core.exactProduct
      simp only
      split <;> rfl
    | fin t d r =>
      have h2 : t = false := hy
      subst h2
      show FP.Core.sgn (FP.Core.roundRatio FP.Core.b64 _ _ 1 _) = false
      rw [FP.Core.sgn_roundRatio]
      rfl
theorem sgn_quotient {x y : FP.Core.Datum} (hx : FP.Core.sgn x = false) (hy : FP.Core.sgn y = false) : FP.Core.sgn (FP.Core.quotient FP.Core.b64 x y) = false := by
  cases x with
  | nan => rfl
  | inf s =>
    have h1 : s = false := hx
    subst h1
    cases y with
    | nan => rfl
    | inf t => rfl
    | fin t d r =>
      have h2 : t = false := hy
      subst h2; rfl
  | fin s c q =>
    have h1 : s = false := hx
    subst h1
    cases y with
    | nan => rfl
    | inf t =>
      have h2 : t = false := hy
      subst h2; rfl
    | fin t d r =>
      have h2 : t = false := hy
      subst h2
      unfold FP.Core.quotient
      simp only
      split
      · split <;> rfl
      · rw [FP.Core.sgn_roundRatio]
        rfl
theorem inf_sgn {x : UInt64} (h : NN x) {s : Bool} (hs : FP.Core.val64 x = .inf s) : s = false := by
  have := h.sgn
  rw [hs] at this
  exact this
theorem nn_dadd {a b : UInt64} (ha : NN a) (hb : NN b) : NN (FP.dadd a b) := by
  refine nn_of ?_ ?_
  · rw [← FP.Core.notNaN_iff]
    refine FP.Core.not_true (FP.Core.dadd_nan_iff a b) ?_
    rintro (h | h | ⟨s, h1, h2⟩)
    · exact ha.ne h
    · exact hb.ne h
    · have e1 := inf_sgn ha h1
      have e2 := inf_sgn hb h2
      subst e1
      cases e2
  · show FP.Core.sgn (FP.Core.val64 (FP.Core.dadd a b)) = false
    rw [FP.Core.val64_dadd]
    exact sgn_sum ha.sgn hb.sgn
theorem NF.ninf {x : UInt64} (h : NF x) (s : Bool) : FP.Core.val64 x ≠ .inf s := h.fin.ne_inf s
theorem nn_dmul {a b : UInt64} (ha : NF a) (hb : NN b) (h0 : a.toNat = 0 → NF b) : NN (FP.dmul a b) := by
  refine nn_of ?_ ?_
  · rw [← FP.Core.notNaN_iff]
    refine FP.Core.not_true (FP.Core.dmul_nan_iff a b) ?_
    rintro (h | h | ⟨s, h1, h2⟩ | ⟨s, h1, h2⟩)
    · exact ha.nn.ne h
    · exact hb.ne h
    · exact ha.ninf s h1
    · have h3 := (FP.Core.zero_bits2 a).mp h1
      have h4 := ha.nn.lt63
      exact (h0 (by omega)).ninf s h2
  · show FP.Core.sgn (FP.Core.val64 (FP.Core.dmul a b)) = false
    rw [FP.Core.val64_dmul]
    exact sgn_product ha.nn.sgn hb.sgn
theorem nn_dmulF {a b : UInt64} (ha : NF a) (hb : NF b) : NN (FP.dmul a b) := nn_dmul ha hb.nn (fun _ => hb)
theorem nn_ddiv {a b : UInt64} (ha : NN a) (hb : NF b) (h0 : 0 < b.toNat) : NN (FP.ddiv a b) := by
  refine nn_of ?_ ?_
  · rw [← FP.Core.notNaN_iff]
    refine FP.Core.not_true (FP.Core.ddiv_nan_iff a b) ?_
    rintro (h | h | ⟨s, t, h1, h2⟩ | ⟨h1, h2⟩)
    · exact ha.ne h
    · exact hb.nn.ne h
    · exact hb.ninf t h2
    · have h3 := (FP.Core.zero_bits2 b).mp h2
      have h4 := hb.nn.lt63
      omega
  · show FP.Core.sgn (FP.Core.val64 (FP.Core.ddiv a b)) = false
    rw [FP.Core.val64_ddiv]
    exact sgn_quotient ha.sgn hb.nn.sgn
/-! sums and differences of finite doubles, in units -/
theorem zadd_le {a b v : UInt64} (ha : FP.Core.DFin a) (hb : FP.Core.DFin b) (hv : FP.Core.val64 v ≠ .nan) (h : zv a + zv b ≤ zv v) : zv (FP.dadd a b) ≤ zv v := by
  show FP.Core.zval FP.Core.b64 (FP.Core.val64 (FP.Core.dadd a b)) ≤ _
  rw [FP.Core.val64_dadd]
  exact FP.Core.sum_le FP.Core.good_b64 ha hb (FP.Core.val64_fits a) (FP.Core.val64_fits b) (FP.Core.val64_fits v) hv h
theorem zadd_ge {a b v : UInt64} (ha : FP.Core.DFin a) (hb : FP.Core.DFin b) (hv : FP.Core.val64 v ≠ .nan) (h : zv v ≤ zv a + zv b) : zv v ≤ zv (FP.dadd a b) := by
  show _ ≤ FP.Core.zval FP.Core.b64 (FP.Core.val64 (FP.Core.dadd a b))
  rw [FP.Core.val64_dadd]
  exact FP.Core.sum_ge FP.Core.good_b64 ha hb (FP.Core.val64_fits a) (FP.Core.val64_fits b) (FP.Core.val64_fits v) hv h
theorem neg_fin {b : UInt64} (hb : FP.Core.DFin b) : ∃ s c q, FP.Core.negate (FP.Core.val64 b) = .fin s c q := by
  obtain ⟨s, c, q, h⟩ := hb
  exact ⟨!s, c, q, by rw [h]; rfl⟩
theorem zsub_le {a b v : UInt64} (ha : FP.Core.DFin a) (hb : FP.Core.DFin b) (hv : FP.Core.val64 v ≠ .nan) (h : zv a - zv b ≤ zv v) : zv (FP.dsub a b) ≤ zv v := by
  show FP.Core.zval FP.Core.b64 (FP.Core.val64 (FP.Core.dsub a b)) ≤ _
  rw [FP.Core.val64_dsub]
  refine FP.Core.sum_le FP.Core.good_b64 ha (neg_fin hb) (FP.Core.val64_fits a) (FP.Core.negate_fits (FP.Core.val64_fits b)) (FP.Core.val64_fits v) hv ?_
  rw [FP.Core.zval_negate]
  unfold zv at h
  omega
theorem zsub_ge {a b v : UInt64} (ha : FP.Core.DFin a) (hb : FP.Core.DFin b) (hv : FP.Core.val64 v ≠ .nan) (h : zv v ≤ zv a - zv b) : zv v ≤ zv (FP.dsub a b) := by
  show _ ≤ FP.Core.zval FP.Core.b64 (FP.Core.val64 (FP.Core.dsub a b))
  rw [FP.Core.val64_dsub]
  refine FP.Core.sum_ge FP.Core.good_b64 ha (neg_fin hb) (FP.Core.val64_fits a) (FP.Core.negate_fits (FP.Core.val64_fits b)) (FP.Core.val64_fits v) hv ?_
  rw [FP.Core.zval_negate]
  unfold zv at h
  omega
theorem dsub_ne {a b : UInt64} (ha : FP.Core.DFin a) (hb : FP.Core.DFin b) : FP.Core.val64 (FP.dsub a b) ≠ .nan := (FP.Core.notNaN_iff _).mp (FP.Core.dsub_out ha.notNaN hb)
theorem dadd_ne {a b : UInt64} (ha : FP.Core.DFin a) (hb : FP.Core.DFin b) : FP.Core.val64 (FP.dadd a b) ≠ .nan := (FP.Core.notNaN_iff _).mp (FP.Core.dadd_out ha.notNaN hb)
theorem dmul_ne {a b : UInt64} (ha : FP.Core.DFin a) (hb : FP.Core.DFin b) : FP.Core.val64 (FP.dmul a b) ≠ .nan := (FP.Core.notNaN_iff _).mp (FP.Core.dmul_out ha hb)
theorem ud_1 : ud 1 = 1 := by decide +kernel
theorem zv_1 : zv 1 = 1 := by decide +kernel
theorem zv_0 : zv 0 = 0 := FP.Core.zval64_zero
theorem ne_0 : FP.Core.val64 0 ≠ .nan := NN.ne (x := 0) (by unfold NN; decide +kernel)
theorem ne_1 : FP.Core.val64 1 ≠ .nan := NN.ne (x := 1) (by unfold NN; decide +kernel)
/-- a value above 0 has no sign bit -/
theorem nn_pos {x : UInt64} (h : FP.Core.val64 x ≠ .nan) (hz : 0 < zv x) : NN x := by
  refine nn_of h ?_
  unfold zv FP.Core.zval at hz
  generalize FP.Core.sgn (FP.Core.val64 x) = s at *
  cases s
  · rfl
  · simp only [FP.Core.signed, if_true] at hz
    omega
theorem NN.fin_of_zv {x y : UInt64} (hx : NN x) (hy : NF y) (h : zv x ≤ zv y) : NF x := by
  rw [hx.uz, hy.nn.uz] at h
  have h1 : ud x ≤ ud y := by omega
  rw [ud_le] at h1
  unfold NF at hy ⊢
  omega
theorem dadd_le {a b v : UInt64} (ha : NF a) (hb : NF b) (hv : NN v) (h : ud a + ud b ≤ ud v) : (FP.dadd a b).toNat ≤ v.toNat := by
  have h1 := zadd_le ha.fin hb.fin hv.ne (by rw [ha.nn.uz, hb.nn.uz, hv.uz]; omega)
  rw [(nn_dadd ha.nn hb.nn).uz, hv.uz] at h1
  exact ud_le.mp (by omega)
theorem dadd_ge {a b v : UInt64} (ha : NF a) (hb : NF b) (hv : NN v) (h : ud v ≤ ud a + ud b) : v.toNat ≤ (FP.dadd a b).toNat := by
  have h1 := zadd_ge ha.fin hb.fin hv.ne (by rw [ha.nn.uz, hb.nn.uz, hv.uz]; omega)
  rw [(nn_dadd ha.nn hb.nn).uz, hv.uz] at h1
  exact ud_le.mp (by omega)
theorem ud_pos {x : UInt64} : 0 < ud x ↔ 0 < x.toNat := by
  have h : ud 0 = 0 := by decide +kernel
  have h2 : (0 : UInt64).toNat = 0 := by decide
  have := @ud_lt 0 x
  rw [h, h2] at this
  exact this
/-- a difference: b below a -/
theorem dsub_pos {a b : UInt64} (ha : NF a) (hb : NF b) (h : b.toNat < a.toNat) : NF (FP.dsub a b) ∧ 0 < (FP.dsub a b).toNat ∧ (FP.dsub a b).toNat ≤ a.toNat := by
  have h0 := ud_lt.mpr h
  have h1 := zsub_ge ha.fin hb.fin ne_1 (by rw [zv_1, ha.nn.uz, hb.nn.uz]; omega)
  have h2 := zsub_le ha.fin hb.fin ha.nn.ne (by rw [ha.nn.uz, hb.nn.uz]; omega)
  rw [zv_1] at h1
  have h3 := nn_pos (dsub_ne ha.fin hb.fin) (by omega)
  have h4 := NN.fin_of_zv h3 ha h2
  rw [h3.uz] at h1 h2
  rw [ha.nn.uz] at h2
  exact ⟨h4, ud_pos.mp (by omega), ud_le.mp (by omega)⟩
theorem dsub_nonpos {a b : UInt64} (ha : NF a) (hb : NF b) (h : a.toNat ≤ b.toNat) : zv (FP.dsub a b) ≤ 0 := by
  have h0 := ud_le.mpr h
  have h1 := zsub_le ha.fin hb.fin ne_0 (by rw [zv_0, ha.nn.uz, hb.nn.uz]; omega)
  rw [zv_0] at h1
  exact h1
theorem dadd_geR {a b : UInt64} (ha : NF a) (hb : NF b) : b.toNat ≤ (FP.dadd a b).toNat := dadd_ge ha hb hb.nn (by omega)
theorem dadd_geL {a b : UInt64} (ha : NF a) (hb : NF b) : a.toNat ≤ (FP.dadd a b).toNat := dadd_ge ha hb ha.nn (by omega)
/-! comparisons -/
theorem cmp_zv {a b : UInt64} (ha : FP.Core.val64 a ≠ .nan) (hb : FP.Core.val64 b ≠ .nan) : FP.dcmp a b = some (compare (zv a) (zv b)) := FP.Core.dcmp_zval ha hb
theorem cmp_nn {a b : UInt64} (ha : NN a) (hb : NN b) : (FP.dcmp a b = some .lt ↔ a.toNat < b.toNat) ∧ (FP.dcmp a b = some .eq ↔ a.toNat = b.toNat) ∧ (FP.dcmp a b = some .gt ↔ b.toNat < a.toNat) := FP.Core.mono_bits ha.ne hb.ne ha.lt63 hb.lt63
/-! products and quotients, in units -/
theorem nf_data {a : UInt64} (h : NF a) : ∃ s c q, FP.Core.decode FP.Core.b64 a.toNat = .fin s c q ∧ FP.Core.fits FP.Core.b64 (.fin s c q) ∧ FP.Core.zmag FP.Core.b64 (.fin s c q) = ud a := by
  obtain ⟨s, c, q, h1, h2, h3⟩ := FP.Core.fin_of_mag FP.Core.good_b64 (n := a.toNat) (by rw [FP.Core.mag_toNat64, FP.Core.infBits_b64]; unfold NF at h; omega)
  refine ⟨s, c, q, h1, h2, ?_⟩
  rw [h3, FP.Core.mag_toNat64, Nat.mod_eq_of_lt h.nn.lt63]
  rfl
theorem dfin_data {a : UInt64} (h : FP.Core.DFin a) : ∃ s c q, FP.Core.decode FP.Core.b64 a.toNat = .fin s c q ∧ FP.Core.fits FP.Core.b64 (.fin s c q) ∧ FP.Core.zmag FP.Core.b64 (.fin s c q) = (zv a).natAbs := by
  obtain ⟨s, c, q, h1⟩ := h
  refine ⟨s, c, q, h1, h1 ▸ FP.Core.val64_fits a, ?_⟩
  unfold zv FP.Core.zval
  rw [h1, FP.Core.natAbs_signed]
theorem dmul_le {a b v : UInt64} (ha : NF a) (hb : NF b) (hv : NN v) (h : ud a * ud b ≤ ud v * 2 ^ 1074) : (FP.dmul a b).toNat ≤ v.toNat := by
  obtain ⟨s, c, q, x1, x2, x3⟩ := nf_data ha
  obtain ⟨t, d, r, y1, y2, y3⟩ := nf_data hb
  obtain ⟨p1, p2, p3⟩ := FP.Core.product_units x2 y2
  have hd : FP.Core.decode FP.Core.b64 (FP.Core.dmul a b).toNat = FP.Core.roundRatio FP.Core.b64 (s != t) (c * d) 1 (q + r) := by
    show FP.Core.val64 (FP.Core.dmul a b) = _
    rw [FP.Core.val64_dmul, show FP.Core.val64 a = _ from x1, show FP.Core.val64 b = _ from y1, p1]
    rfl
  have h1 := FP.Core.mag_le FP.Core.good_b64 hd (by decide) (e0 := 2 * FP.Core.b64.qmin) (by rw [FP.Core.qmin_b64]; decide) p2 (m := v.toNat) (by
    rw [p3, x3, y3, Nat.mul_one, show (FP.Core.b64.qmin - 2 * FP.Core.b64.qmin).toNat = 1074 by rw [FP.Core.qmin_b64]; decide]
    exact h)
  rw [FP.Core.mag_toNat64, Nat.mod_eq_of_lt (nn_dmulF ha hb).lt63] at h1
  exact h1
theorem ddiv_mle {a b v : UInt64} (ha : FP.Core.DFin a) (hb : NF b) (h0 : 0 < b.toNat) (h : (zv a).natAbs * 2 ^ 1074 ≤ ud v * ud b) : (FP.ddiv a b).toNat % 2 ^ 63 ≤ v.toNat := by
  obtain ⟨s, c, q, x1, x2, x3⟩ := dfin_data ha
  obtain ⟨t, d, r, y1, y2, y3⟩ := nf_data hb
  have hq := FP.Core.qmin_neg FP.Core.good_b64
  have hb0 := ud_pos.mpr h0
  have hd0 : d ≠ 0 := by
    rintro rfl
    have h1 : FP.Core.zmag FP.Core.b64 (.fin t 0 r) = 0 := Nat.zero_mul _
    omega
  have hd : FP.Core.decode FP.Core.b64 (FP.Core.ddiv a b).toNat = FP.Core.roundRatio FP.Core.b64 (s != t) c d (q - r) := by
    show FP.Core.val64 (FP.Core.ddiv a b) = _
    rw [FP.Core.val64_ddiv, show FP.Core.val64 a = _ from x1, show FP.Core.val64 b = _ from y1]
    simp only [FP.Core.quotient, if_neg hd0]
  have hx1 := x2.2.1
  have hy1 := y2.2.1
  have h1 := FP.Core.mag_le FP.Core.good_b64 hd (by omega) (e0 := 2 * FP.Core.b64.qmin - r) (by omega) (by omega) (m := v.toNat) (by
    have e1 : FP.Core.inUnits c (q - r) (2 * FP.Core.b64.qmin - r) = FP.Core.zmag FP.Core.b64 (.fin s c q) * 2 ^ (-FP.Core.b64.qmin).toNat := by
      show c * _ = c * _ * _
      rw [Nat.mul_assoc, ← Nat.pow_add]; congr 2; omega
    have e2 : 2 ^ (FP.Core.b64.qmin - (2 * FP.Core.b64.qmin - r)).toNat * d = FP.Core.zmag FP.Core.b64 (.fin t d r) := by
      show _ = d * _
      rw [Nat.mul_comm]; congr 2; omega
    rw [e1, Nat.mul_assoc, e2, x3, y3, show (-FP.Core.b64.qmin).toNat = 1074 by rw [FP.Core.qmin_b64]; decide]
    exact h)
  rw [FP.Core.mag_toNat64] at h1
  exact h1
theorem ddiv_le {a b v : UInt64} (ha : NF a) (hb : NF b) (h0 : 0 < b.toNat) (h : ud a * 2 ^ 1074 ≤ ud v * ud b) : (FP.ddiv a b).toNat ≤ v.toNat := by
  have h1 := ddiv_mle (v := v) ha.fin hb h0 (by rw [ha.nn.uz]; exact h)
  rw [Nat.mod_eq_of_lt (nn_ddiv ha.nn hb h0).lt63] at h1
  exact h1
/-! a double by its digits -/
theorem mk_units (c k : Nat) (hc : c < 2 ^ 53) (hk : k ≤ 2045) : ∃ V : UInt64, NF V ∧ ud V = c * 2 ^ k := by
  have hq : FP.Core.b64.qmin = -1074 := FP.Core.qmin_b64
  have hm : FP.Core.b64.qmax = 971 := by decide
  obtain ⟨c', q', h1, h2⟩ := FP.Core.round_exact FP.Core.good_b64 false (c := c) (q := FP.Core.b64.qmin + (k : Int)) (by rw [show FP.Core.b64.p = 53 from rfl]; exact hc) (by omega) (by omega)
  have h3 : FP.Core.fits FP.Core.b64 (.fin false c' q') := h1 ▸ FP.Core.round_fits FP.Core.good_b64 _
  have h4 := FP.Core.val64_of64 h3
  have h5 : NF (FP.Core.of64 (.fin false c' q')) := nf_of ⟨_, _, _, h4⟩ (by rw [h4]; rfl)
  refine ⟨_, h5, ?_⟩
  have h6 := h5.nn.uz
  unfold zv FP.Core.zval at h6
  rw [h4] at h6
  have h7 : FP.Core.inUnits c' q' FP.Core.b64.qmin = ud (FP.Core.of64 (.fin false c' q')) := by
    have : ((FP.Core.inUnits c' q' FP.Core.b64.qmin : Nat) : Int) = (ud (FP.Core.of64 (.fin false c' q')) : Int) := h6
    omega
  rw [← h7, h2]
  unfold FP.Core.inUnits
  rw [show (FP.Core.b64.qmin + (k : Int) - FP.Core.b64.qmin).toNat = k by omega]
theorem ud_form {a : UInt64} (h : NF a) : ∃ c k : Nat, c < 2 ^ 53 ∧ k ≤ 2045 ∧ ud a = c * 2 ^ k ∧ (k = 0 ∨ 2 ^ 52 ≤ c) := by
  obtain ⟨s, c, q, x1, x2, x3⟩ := nf_data h
  have hq : FP.Core.b64.qmin = -1074 := FP.Core.qmin_b64
  have hm : FP.Core.b64.qmax = 971 := by decide
  obtain ⟨h1, h2, h3, h4⟩ := x2
  refine ⟨c, (q - FP.Core.b64.qmin).toNat, h1, by omega, x3.symm, ?_⟩
  rcases h4 with h4 | h4
  · exact Or.inl (by omega)
  · exact Or.inr h4
