/-! REAL VALUES 3: sums and means -/
def SL (h : Nat → UInt64) : Nat → Rat
  | 0 => 0
  | k + 1 => SL h k + rv (h k)
def PL (f : Nat) (h : Nat → UInt64) : Nat → Rat
  | 0 => 0
  | k + 1 => PL f h k + rv (h k) * rv (h (f + k))
theorem p1085 : ∀ k : Fin 9, ud (FP.i2d (nI (200 * k.val))) ≤ 2 ^ 1085 := by decide +kernel
theorem bd_0 (k : Nat) : BD k 0 := ⟨by unfold NF; decide +kernel, by rw [show ud 0 = 0 by decide +kernel]; exact Nat.zero_le _⟩
theorem suL_bd {m n : Nat} {h : Nat → UInt64} (hn : n ≤ 8) (hb : HB m n h) {k : Nat} (hk : k ≤ n) : BD 1085 (suL h k) := by
  obtain ⟨h1, h2⟩ := suL_nf hn hb k hk
  exact ⟨h1, Nat.le_trans h2 (p1085 ⟨k, by omega⟩)⟩
theorem kr_le {k : Nat} (hk : k ≤ 8) : 0 ≤ ((k : Nat) : Rat) ∧ ((k : Nat) : Rat) ≤ 8 := ⟨Rat.natCast_nonneg, by
  have h := Rat.natCast_le_natCast.mpr hk
  exact h⟩
theorem suL_r {m n : Nat} {h : Nat → UInt64} (hn : n ≤ 8) (hb : HB m n h) : ∀ k, k ≤ n → 0 ≤ SL h k ∧ SL h k ≤ 200 * ((k : Nat) : Rat) ∧ rv (suL h k) ≤ SL h k + 2 * (((k : Nat) : Rat) * SL h k) / 4503599627370496 ∧ SL h k - 2 * (((k : Nat) : Rat) * SL h k) / 4503599627370496 ≤ rv (suL h k) := by
  intro k
  induction k with
  | zero =>
    intro _
    show 0 ≤ (0 : Rat) ∧ (0 : Rat) ≤ 200 * ((0 : Nat) : Rat) ∧ rv 0 ≤ 0 + 2 * (((0 : Nat) : Rat) * 0) / 4503599627370496 ∧ 0 - 2 * (((0 : Nat) : Rat) * 0) / 4503599627370496 ≤ rv 0
    rw [rv_zero]
    refine ⟨by grind, by grind, by grind, by grind⟩
  | succ k ih =>
    intro hk
    obtain ⟨i1, i2, i3, i4⟩ := ih (by omega)
    have hl := (hb.2 k (by omega)).1
    have hlr := hl.r
    have b1 := suL_bd hn hb (k := k) (by omega)
    have b2 := suL_bd hn hb (k := k + 1) hk
    have e := add_err b1.1 hl.nf (bd_r (x := suL h (k + 1)) b2 (by decide))
    have hkr := kr_le (k := k) (by omega)
    show 0 ≤ SL h k + rv (h k) ∧ SL h k + rv (h k) ≤ 200 * ((k + 1 : Nat) : Rat) ∧ rv (FP.dadd (suL h k) (h k)) ≤ (SL h k + rv (h k)) + 2 * (((k + 1 : Nat) : Rat) * (SL h k + rv (h k))) / 4503599627370496 ∧ (SL h k + rv (h k)) - 2 * (((k + 1 : Nat) : Rat) * (SL h k + rv (h k))) / 4503599627370496 ≤ rv (FP.dadd (suL h k) (h k))
    rw [Rat.natCast_add]
    have h1 : ((1 : Nat) : Rat) = 1 := rfl
    rw [h1]
    have s0 := rv_0 b1.1.nn
    have q1 := Rat.mul_le_mul_of_nonneg_right hkr.2 i1
    have q2 := Rat.mul_nonneg hkr.1 i1
    have q3 := Rat.mul_nonneg hkr.1 hlr.1
    generalize rv (FP.dadd (suL h k) (h k)) = R at *
    generalize rv (suL h k) = s at *
    generalize SL h k = S at *
    generalize rv (h k) = l at *
    generalize ((k : Nat) : Rat) = K at *
    clear b1 b2 hl hb ih
    have q4 : (K + 1) * (S + l) = K * S + K * l + S + l := by grind
    rw [q4]
    generalize K * S = KS at *
    generalize K * l = Kl at *
    refine ⟨by grind, by grind, by grind, by grind⟩
/-- a sum of litres: rough errors -/
theorem suL_a {m n : Nat} {h : Nat → UInt64} (hn : n ≤ 8) (hb : HB m n h) : 0 ≤ SL h n ∧ SL h n ≤ 1600 ∧ rv (suL h n) ≤ SL h n + 16 * SL h n / 4503599627370496 ∧ SL h n - 16 * SL h n / 4503599627370496 ≤ rv (suL h n) := by
  obtain ⟨i1, i2, i3, i4⟩ := suL_r hn hb n (Nat.le_refl n)
  have hkr := kr_le hn
  have q1 := Rat.mul_le_mul_of_nonneg_right hkr.2 i1
  generalize rv (suL h n) = s at *
  generalize SL h n = S at *
  generalize ((n : Nat) : Rat) = K at *
  generalize K * S = KS at *
  refine ⟨by grind, by grind, by grind, by grind⟩
theorem suP_bd {m n f : Nat} {h : Nat → UInt64} (hm : m ≤ 800) (hn : n ≤ 8) (hb : HB m n h) (hf : ∀ i, i < n → VB m (h (f + i))) : ∀ k, k ≤ n → BD (1082 + m + k) (suP f h k) := by
  intro k
  induction k with
  | zero => exact fun _ => bd_0 _
  | succ k ih =>
    intro hk
    have h1 := ih (by omega)
    have h2 := bd_mul (hb.2 k (by omega)).1.bd (hf k (by omega)).bd (by omega) (by omega)
    rw [show 1082 + (1074 + m) - 1074 = 1082 + m by omega] at h2
    have h3 : BD (1082 + m + k) (FP.dmul (h k) (h (f + k))) := h2.mono (by omega)
    have h4 := bd_add h1 h3 (by omega)
    exact h4
theorem suP_r {m n f : Nat} {h : Nat → UInt64} (hm : m ≤ 800) (hn : n ≤ 8) (hb : HB m n h) (hf : ∀ i, i < n → VB m (h (f + i))) : ∀ k, k ≤ n → 0 ≤ PL f h k ∧ rv (suP f h k) ≤ PL f h k + 4 * (((k : Nat) : Rat) * PL f h k) / 4503599627370496 + 4 * ((k : Nat) : Rat) * eta ∧ PL f h k - 4 * (((k : Nat) : Rat) * PL f h k) / 4503599627370496 - 4 * ((k : Nat) : Rat) * eta ≤ rv (suP f h k) := by
  intro k
  induction k with
  | zero =>
    intro _
    show 0 ≤ (0 : Rat) ∧ rv 0 ≤ 0 + 4 * (((0 : Nat) : Rat) * 0) / 4503599627370496 + 4 * ((0 : Nat) : Rat) * eta ∧ 0 - 4 * (((0 : Nat) : Rat) * 0) / 4503599627370496 - 4 * ((0 : Nat) : Rat) * eta ≤ rv 0
    rw [rv_zero]
    have h0 : ((0 : Nat) : Rat) = 0 := rfl
    rw [h0]
    refine ⟨by grind, by grind, by grind⟩
  | succ k ih =>
    intro hk
    obtain ⟨i1, i3, i4⟩ := ih (by omega)
    have hl := (hb.2 k (by omega)).1
    have hlr := hl.r
    have hx := hf k (by omega)
    have b1 := suP_bd hm hn hb hf k (by omega)
    have b2 := suP_bd hm hn hb hf (k + 1) hk
    have b3 := bd_mul hl.bd hx.bd (by omega) (by omega)
    have e := add_err b1.1 b3.1 (bd_r (x := suP f h (k + 1)) b2 (by omega))
    have e2 := mul_err hl.nf hx.1 (bd_r b3 (by omega))
    have hkr := kr_le (k := k) (by omega)
    show 0 ≤ PL f h k + rv (h k) * rv (h (f + k)) ∧ rv (FP.dadd (suP f h k) (FP.dmul (h k) (h (f + k)))) ≤ (PL f h k + rv (h k) * rv (h (f + k))) + 4 * (((k + 1 : Nat) : Rat) * (PL f h k + rv (h k) * rv (h (f + k)))) / 4503599627370496 + 4 * ((k + 1 : Nat) : Rat) * eta ∧ (PL f h k + rv (h k) * rv (h (f + k))) - 4 * (((k + 1 : Nat) : Rat) * (PL f h k + rv (h k) * rv (h (f + k)))) / 4503599627370496 - 4 * ((k + 1 : Nat) : Rat) * eta ≤ rv (FP.dadd (suP f h k) (FP.dmul (h k) (h (f + k))))
    rw [Rat.natCast_add]
    have h1 : ((1 : Nat) : Rat) = 1 := rfl
    rw [h1]
    have s0 := rv_0 b1.1.nn
    have x0 := rv_0 hx.1.nn
    have l0 := Rat.mul_nonneg hlr.1 x0
    have q1 := Rat.mul_le_mul_of_nonneg_right hkr.2 i1
    have q2 := Rat.mul_nonneg hkr.1 i1
    have q3 := Rat.mul_nonneg hkr.1 l0
    have et := eta_pos
    have q5 := Rat.mul_le_mul_of_nonneg_right hkr.2 (Rat.le_of_lt et)
    have q6 := Rat.mul_nonneg hkr.1 (Rat.le_of_lt et)
    generalize rv (FP.dadd (suP f h k) (FP.dmul (h k) (h (f + k)))) = R at *
    generalize rv (FP.dmul (h k) (h (f + k))) = pp at *
    generalize rv (suP f h k) = s at *
    generalize PL f h k = S at *
    generalize rv (h k) * rv (h (f + k)) = l at *
    generalize ((k : Nat) : Rat) = K at *
    generalize eta = t at *
    clear b1 b2 b3 hl hb ih hf hx
    have q4 : (K + 1) * (S + l) = K * S + K * l + S + l := by grind
    have q7 : 4 * (K + 1) * t = 4 * (K * t) + 4 * t := by grind
    have q8 : 4 * K * t = 4 * (K * t) := by grind
    rw [q4, q7]
    rw [q8] at i3 i4
    generalize K * S = KS at *
    generalize K * l = Kl at *
    generalize K * t = Kt at *
    refine ⟨by grind, by grind, by grind⟩
theorem suP_a {m n f : Nat} {h : Nat → UInt64} (hm : m ≤ 800) (hn : n ≤ 8) (hb : HB m n h) (hf : ∀ i, i < n → VB m (h (f + i))) : 0 ≤ PL f h n ∧ rv (suP f h n) ≤ PL f h n + 32 * PL f h n / 4503599627370496 + 32 * eta ∧ PL f h n - 32 * PL f h n / 4503599627370496 - 32 * eta ≤ rv (suP f h n) := by
  obtain ⟨i1, i3, i4⟩ := suP_r hm hn hb hf n (Nat.le_refl n)
  have hkr := kr_le hn
  have q1 := Rat.mul_le_mul_of_nonneg_right hkr.2 i1
  have et := eta_pos
  have q5 := Rat.mul_le_mul_of_nonneg_right hkr.2 (Rat.le_of_lt et)
  have q8 : 4 * ((n : Nat) : Rat) * eta = 4 * (((n : Nat) : Rat) * eta) := by grind
  rw [q8] at i3 i4
  generalize rv (suP f h n) = s at *
  generalize PL f h n = S at *
  generalize ((n : Nat) : Rat) = K at *
  generalize K * S = KS at *
  generalize K * eta = Kt at *
  refine ⟨by grind, by grind, by grind⟩
theorem gt_rv {x : UInt64} (hx : NN x) : FP.dcmp x 0 = some .gt ↔ 0 < rv x := by
  rw [(cmp_rv hx.ne ne_0).2.1, rv_zero]
/-- a mean, times all litres -/
theorem mean_r {m n f : Nat} {h : Nat → UInt64} (hf8 : f = 8 ∨ f = 24) (hm : m ≤ 800) (hn : n ≤ 8) (hb : HB m n h) (hf : ∀ i, i < n → VB m (h (f + i))) (hg : FP.dcmp (suL h n) 0 = some .gt) (hz : ud (mnv f h n) ≤ 2 ^ 2090) :
    NN (mnv f h n) ∧ rv (mnv f h n) * SL h n ≤ PL f h n + 64 * PL f h n / 4503599627370496 + 8192 * eta ∧ PL f h n - 64 * PL f h n / 4503599627370496 - 8192 * eta ≤ rv (mnv f h n) * SL h n := by
  have b1 := suL_bd hn hb (k := n) (Nat.le_refl n)
  have b2 := suP_bd hm hn hb hf n (Nat.le_refl n)
  have a1 := suL_a hn hb
  have a2 := suP_a hm hn hb hf
  have g1 := (gt_rv b1.1.nn).mp hg
  have g2 : 0 < (suL h n).toNat := (ge_0 b1.1.nn).mp hg
  have e : mnv f h n = FP.ddiv (suP f h n) (suL h n) := if_pos hg
  rw [e] at hz ⊢
  have d := div_err b2.1 b1.1 g2 hz
  have hz0 := nn_ddiv b2.1.nn b1.1 g2
  refine ⟨hz0, ?_⟩
  have z0 := rv_0 hz0
  have et := eta_pos
  have s0 := rv_0 b1.1.nn
  have p0 := rv_0 b2.1.nn
  generalize rv (FP.ddiv (suP f h n) (suL h n)) = Z at *
  generalize rv (suP f h n) = p at *
  generalize rv (suL h n) = s at *
  generalize SL h n = T at *
  generalize PL f h n = P at *
  generalize eta = t at *
  clear b1 b2 hb hf hz hz0 e
  have sT : s ≤ 1601 := by grind
  have q1 := Rat.mul_le_mul_of_nonneg_left a1.2.2.1 z0
  have q2 := Rat.mul_le_mul_of_nonneg_left a1.2.2.2 z0
  have q3 := Rat.mul_le_mul_of_nonneg_left sT (Rat.le_of_lt et)
  have q4 := Rat.mul_nonneg (Rat.le_of_lt et) s0
  have q5 := Rat.mul_nonneg z0 a1.1
  have r1 : Z * (T + 16 * T / 4503599627370496) = Z * T + 16 * (Z * T) / 4503599627370496 := by grind
  have r2 : Z * (T - 16 * T / 4503599627370496) = Z * T - 16 * (Z * T) / 4503599627370496 := by grind
  have r3 : 2 * t * s = 2 * (t * s) := by grind
  rw [r1] at q1
  rw [r2] at q2
  rw [r3] at d
  generalize Z * s = Zs at *
  generalize Z * T = ZT at *
  generalize t * s = ts at *
  constructor <;> grind
