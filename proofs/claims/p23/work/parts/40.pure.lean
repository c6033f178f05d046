/-! the pure part: bounds that keep all numbers finite -/
/-- litres: at most 200 -/
def LB (x : UInt64) : Prop := x.toNat ≤ 4641240890982006784
/-- ages, acids, sugars: at most 2 ^ m -/
def VB (m : Nat) (x : UInt64) : Prop := NF x ∧ ud x ≤ 2 ^ (1074 + m)
theorem ud_200 : ud 4641240890982006784 = 200 * 2 ^ 1074 := by decide +kernel
theorem ud_400 : ud 4645744490609377280 = 400 * 2 ^ 1074 := by decide +kernel
theorem LB.nf {x : UInt64} (h : LB x) : NF x := by unfold LB at h; unfold NF; omega
theorem LB.ud {x : UInt64} (h : LB x) : ud x ≤ 200 * 2 ^ 1074 := by
  rw [← ud_200]
  exact ud_le.mpr (by unfold LB at h; exact h)
theorem VB.mono {m k : Nat} {x : UInt64} (h : VB m x) (hk : m ≤ k) : VB k x := ⟨h.1, Nat.le_trans h.2 (Nat.pow_le_pow_right (by decide) (by omega))⟩
theorem nf_le {x v : UInt64} (hv : NF v) (h : x.toNat ≤ v.toNat) : NF x := Nat.lt_of_le_of_lt h hv
/-- a number times a power of two -/
theorem scale {a : UInt64} (ha : NF a) (hb : ud a ≤ 400 * 2 ^ 1074) {m : Nat} (hm : m ≤ 1000) : ∃ V : UInt64, NF V ∧ ud V = ud a * 2 ^ m := by
  obtain ⟨c, k, hc, hk, hu, hck⟩ := ud_form ha
  have hkm : k + m ≤ 2045 := by
    rcases hck with h | h
    · omega
    · have h1 : 2 ^ 52 * 2 ^ k ≤ 2 ^ 1083 := by
        calc 2 ^ 52 * 2 ^ k ≤ c * 2 ^ k := Nat.mul_le_mul_right _ h
          _ = ud a := hu.symm
          _ ≤ 400 * 2 ^ 1074 := hb
          _ ≤ 512 * 2 ^ 1074 := Nat.mul_le_mul_right _ (by decide)
          _ = 2 ^ 1083 := by rw [show (512 : Nat) = 2 ^ 9 from rfl, ← Nat.pow_add]
      rw [← Nat.pow_add] at h1
      have h2 := (Nat.pow_le_pow_iff_right (by decide)).mp h1
      omega
  obtain ⟨V, h1, h2⟩ := mk_units c (k + m) hc hkm
  exact ⟨V, h1, by rw [h2, hu, Nat.pow_add, Nat.mul_assoc]⟩
theorem ud_of_le {x v : UInt64} (h : x.toNat ≤ v.toNat) : ud x ≤ ud v := ud_le.mpr h
theorem ge_0 {x : UInt64} (hx : NN x) : FP.dcmp x 0 = some .gt ↔ 0 < x.toNat := (cmp_nn hx nn_0).2.2
/-- mixing: nothing overflows -/
theorem mix_ok {v x w y : UInt64} {m : Nat} (hv : LB v) (hw : LB w) (hw0 : 0 < w.toNat) (hx : VB m x) (hy : VB m y) (hm : m ≤ 800) : mixok v x w y ∧ VB (m + 1) (mixv v x w y) := by
  have e400 : NN 4645744490609377280 := by unfold NN; decide +kernel
  have hs4 : (FP.dadd v w).toNat ≤ (4645744490609377280 : UInt64).toNat := dadd_le hv.nf hw.nf e400 (by
    rw [ud_400]
    have := hv.ud; have := hw.ud
    omega)
  have hsF : NF (FP.dadd v w) := nf_le (v := 4645744490609377280) (by unfold NF; decide +kernel) hs4
  have hsV := dadd_geL hv.nf hw.nf
  have hsW := dadd_geR hv.nf hw.nf
  have hs0 : 0 < (FP.dadd v w).toNat := by omega
  have hsu : ud (FP.dadd v w) ≤ 400 * 2 ^ 1074 := by rw [← ud_400]; exact ud_of_le hs4
  have hvu := ud_of_le hsV
  have hwu := ud_of_le hsW
  generalize hse : FP.dadd v w = s at hs4 hsF hsV hsW hs0 hsu hvu hwu
  obtain ⟨V1, f1, u1⟩ := scale hv.nf (Nat.le_trans hv.ud (Nat.mul_le_mul_right _ (by decide))) (m := m) (by omega)
  obtain ⟨V2, f2, u2⟩ := scale hw.nf (Nat.le_trans hw.ud (Nat.mul_le_mul_right _ (by decide))) (m := m) (by omega)
  obtain ⟨V3, f3, u3⟩ := scale hsF hsu (m := m + 1) (by omega)
  obtain ⟨V4, f4, u4⟩ := mk_units 1 (1074 + (m + 1)) (by decide) (by omega)
  have hpow : 2 ^ (1074 + m) = 2 ^ m * 2 ^ 1074 := by rw [Nat.add_comm, Nat.pow_add]
  have p1 : (FP.dmul v x).toNat ≤ V1.toNat := dmul_le hv.nf hx.1 f1.nn (by
    rw [u1, Nat.mul_assoc, ← hpow]
    exact Nat.mul_le_mul_left _ hx.2)
  have p2 : (FP.dmul w y).toNat ≤ V2.toNat := dmul_le hw.nf hy.1 f2.nn (by
    rw [u2, Nat.mul_assoc, ← hpow]
    exact Nat.mul_le_mul_left _ hy.2)
  have n1 : NF (FP.dmul v x) := nf_le f1 p1
  have n2 : NF (FP.dmul w y) := nf_le f2 p2
  have q1 := ud_of_le p1
  have q2 := ud_of_le p2
  rw [u1] at q1
  rw [u2] at q2
  have p3 : (FP.dadd (FP.dmul v x) (FP.dmul w y)).toNat ≤ V3.toNat := dadd_le n1 n2 f3.nn (by
    rw [u3, Nat.pow_succ, ← Nat.mul_assoc]
    have h1 := Nat.mul_le_mul_right (2 ^ m) hvu
    have h2 := Nat.mul_le_mul_right (2 ^ m) hwu
    omega)
  have n3 := nf_le f3 p3
  have q3 := ud_of_le p3
  rw [u3] at q3
  have p4 : (FP.ddiv (FP.dadd (FP.dmul v x) (FP.dmul w y)) s).toNat ≤ V4.toNat := ddiv_le n3 hsF hs0 (by
    rw [u4, Nat.one_mul, Nat.pow_add, Nat.mul_assoc, Nat.mul_comm (2 ^ 1074), Nat.mul_comm (2 ^ (m + 1))]
    exact Nat.mul_le_mul_right _ q3)
  have n4 := nf_le f4 p4
  refine ⟨⟨?_, ?_, n1.nn.n64, n2.nn.n64, n3.nn.n64, ?_⟩, ?_⟩
  · rw [hse]; exact hsF.nn.n64
  · rw [hse]; exact (ge_0 hsF.nn).mpr hs0
  · show vf_n64 (FP.ddiv _ (FP.dadd v w))
    rw [hse]; exact n4.nn.n64
  · unfold mixv
    rw [hse]
    refine ⟨n4, ?_⟩
    have := ud_of_le p4
    rw [u4, Nat.one_mul] at this
    exact this
