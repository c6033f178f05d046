/-! REAL VALUES 13: what isBottled asks -/
theorem c01_v : rv 4591870180066957722 = 7205759403792794 / 72057594037927936 := by
  have h := rv_c (x := 4591870180066957722) 7205759403792794 1018 56 72057594037927936 (by unfold NN; decide +kernel) (by decide) (by decide +kernel) (by decide)
  have h : rv 4591870180066957722 * 72057594037927936 = 7205759403792794 := by simpa using h
  generalize rv 4591870180066957722 = z at *
  grind
theorem bd_01 : BD 1074 4591870180066957722 := ⟨nf_01, by decide +kernel⟩
/-- so many bottles' litres -/
theorem bot_r {T : Nat} (hT : T ≤ 1000) : BD 1085 (botv (nI T)) ∧ rv (botv (nI T)) ≤ ((T : Nat) : Rat) * (7205759403792794 / 72057594037927936) + ((T : Nat) : Rat) * (7205759403792794 / 72057594037927936) / 4503599627370496 + 2 * eta ∧ ((T : Nat) : Rat) * (7205759403792794 / 72057594037927936) - ((T : Nat) : Rat) * (7205759403792794 / 72057594037927936) / 4503599627370496 - 2 * eta ≤ rv (botv (nI T)) := by
  obtain ⟨i1, i2⟩ := i2d_v hT
  have b := bd_mul (i2d_bd hT) bd_01 (by decide) (by decide)
  have e := mul_err i1 nf_01 (bd_r b (by decide))
  rw [i2, c01_v] at e
  exact ⟨b.mono (by decide), e.1, e.2⟩
theorem tak_v {n w K : Nat} {h : Nat → UInt64} {df : Int32} {q : UInt64} (hw : w < 2 ^ 31) (hK : K < 2 ^ 31) (e : rdv h n df q = nI K) : takv h n df q (nI w) = nI (min w K) := by
  unfold takv
  rw [e]
  by_cases c : w < K
  · rw [if_pos (nI_lt c hK), Nat.min_eq_left (by omega)]
  · rw [if_neg (nI_nlt (by omega) hw), Nat.min_eq_right (by omega)]
theorem les_r {a b : UInt64} (ha : FP.Core.val64 a ≠ .nan) (hb : FP.Core.val64 b ≠ .nan) : rv (lesv a b) ≤ rv a ∧ rv (lesv a b) ≤ rv b ∧ (lesv a b = a ∨ lesv a b = b) := by
  have hc := (cmp_rv ha hb).1
  unfold lesv
  by_cases c : FP.dcmp a b = some .lt
  · rw [if_pos c]
    exact ⟨Rat.le_refl, Rat.le_of_lt (hc.mp c), Or.inl rfl⟩
  · rw [if_neg c]
    exact ⟨Rat.not_lt.mp fun h9 => c (hc.mpr h9), Rat.le_refl, Or.inr rfl⟩
theorem elO_congr {h g : Nat → UInt64} : ∀ k, (∀ i, i < k → (gtz (h i) ↔ gtz (g i)) ∧ h (8 + i) = g (8 + i)) → elO h k = elO g k := by
  intro k
  induction k with
  | zero => exact fun _ => rfl
  | succ k ih =>
    intro hh
    have e := ih (fun i hi => hh i (by omega))
    obtain ⟨h1, h2⟩ := hh k (by omega)
    show (if elt h k (elO h k) = true then some k else elO h k) = (if elt g k (elO g k) = true then some k else elO g k)
    have et : elt h k (elO h k) = elt g k (elO g k) := by
      rw [← e]
      unfold elt
      have e1 : decide (FP.dcmp (h k) 0 = some .gt) = decide (FP.dcmp (g k) 0 = some .gt) := decide_eq_decide.mpr h1
      rw [e1]
      cases ho : elO h k with
      | none => rfl
      | some b =>
        have hbk := elO_lt h k b ho
        show (_ && decide (FP.dcmp (h (8 + k)) (h (8 + b)) ≠ some .lt)) = (_ && decide (FP.dcmp (g (8 + k)) (g (8 + b)) ≠ some .lt))
        rw [h2, (hh b (by omega)).2]
    rw [et, e]
/-! what is left of a barrel is not too little -/
abbrev cG : UInt64 := 4354980839667269632
theorem nf_cG : NF cG := by unfold NF; decide +kernel
theorem ud_cG : ud cG = 2 ^ 1018 := by decide +kernel
theorem cG_v : rv cG = 1 / 72057594037927936 := by
  have h := rv_c (x := cG) 1 1018 56 72057594037927936 nf_cG.nn (by decide) (by decide +kernel) (by decide)
  have h : rv cG * 72057594037927936 = 1 := by simpa using h
  generalize rv cG = z at *
  grind
theorem ud_dvd {x : UInt64} (hx : NF x) (h : 2 ^ 1070 ≤ ud x) : ∃ y, ud x = y * 2 ^ 1018 := by
  obtain ⟨c, k, hc, hk, hu, -⟩ := ud_form hx
  by_cases hk2 : 1018 ≤ k
  · refine ⟨c * 2 ^ (k - 1018), ?_⟩
    rw [hu, Nat.mul_assoc, ← Nat.pow_add]
    congr 2
    omega
  · exfalso
    rw [hu] at h
    have h1 : c * 2 ^ k < 2 ^ 53 * 2 ^ k := Nat.mul_lt_mul_of_pos_right hc (Nat.two_pow_pos k)
    have h2 : 2 ^ 53 * 2 ^ k ≤ 2 ^ 1070 := by
      rw [← Nat.pow_add]
      exact Nat.pow_le_pow_right (by decide) (by omega)
    omega
theorem sub_gran {a b : UInt64} (ha : NF a) (hb : NF b) (h1 : 2 ^ 1070 ≤ ud b) (h : b.toNat < a.toNat) : rv cG ≤ rv (FP.dsub a b) := by
  have h0 := ud_lt.mpr h
  obtain ⟨y, hy⟩ := ud_dvd ha (by omega)
  obtain ⟨z, hz⟩ := ud_dvd hb h1
  rw [rv_le]
  refine zsub_ge ha.fin hb.fin nf_cG.nn.ne ?_
  rw [nf_cG.nn.uz, ha.nn.uz, hb.nn.uz, ud_cG, hy, hz]
  rw [hy, hz] at h0
  have h2 : z < y := Nat.lt_of_mul_lt_mul_right h0
  have h3 : (z + 1) * 2 ^ 1018 ≤ y * 2 ^ 1018 := Nat.mul_le_mul_right _ h2
  rw [Nat.add_mul, Nat.one_mul] at h3
  generalize 2 ^ 1018 = P at *
  generalize y * P = yP at *
  generalize z * P = zP at *
  omega
theorem sixt_v : rv 4589168020290535424 = 1 / 16 ∧ ud 4589168020290535424 = 2 ^ 1070 := by
  have h := rv_c (x := 4589168020290535424) 1 1070 4 16 (by unfold NN; decide +kernel) (by decide) (by decide +kernel) (by decide)
  have h : rv 4589168020290535424 * 16 = 1 := by simpa using h
  refine ⟨?_, by decide +kernel⟩
  generalize rv 4589168020290535424 = z at *
  grind
theorem i32_sum (a b c t : Int32) : ((a + t) + b) + c = ((a + b) + c) + t ∧ (a + (b + t)) + c = ((a + b) + c) + t ∧ (a + b) + (c + t) = ((a + b) + c) + t := by
  refine ⟨?_, ?_, ?_⟩ <;> first | ac_rfl | grind
theorem drK_sum {n : Nat} {h : Nat → UInt64} {df x : Int32} {q : UInt64} {dk : Nat → Int32} {b : Nat} (ho : elO h n = some b) (h0 : 0 < takv h n df q x) : (drK dk h n df q x 0 + drK dk h n df q x 1) + drK dk h n df q x 2 = ((dk 0 + dk 1) + dk 2) + takv h n df q x := by
  rw [(dr_yes (dk := dk) ho h0).2.2]
  have hk := kndN_lt (h (8 + b))
  generalize kndN (h (8 + b)) = k at *
  generalize takv h n df q x = t at *
  obtain ⟨s1, s2, s3⟩ := i32_sum (dk 0) (dk 1) (dk 2) t
  rcases (show k = 0 ∨ k = 1 ∨ k = 2 by omega) with rfl | rfl | rfl
  · rw [pk_us, pk_un (by decide), pk_un (by decide)]
    exact s1
  · rw [pk_un (by decide), pk_us, pk_un (by decide)]
    exact s2
  · rw [pk_un (by decide), pk_un (by decide), pk_us]
    exact s3
/-- what is ready and how it divides -/
theorem rd_d {m n : Nat} {h : Nat → UInt64} {q : UInt64} {b : Nat} (hb : HB m n h) (hq : QB q) (hbn : b < n) (hg : FP.dcmp (leB h q b) 0 = some .gt) : rv (FP.ddiv (leB h q b) 4591870180066957722) * (7205759403792794 / 72057594037927936) ≤ rv (leB h q b) + rv (leB h q b) / 4503599627370496 + eta ∧ rv (leB h q b) - rv (leB h q b) / 4503599627370496 - eta ≤ rv (FP.ddiv (leB h q b) 4591870180066957722) * (7205759403792794 / 72057594037927936) := by
  obtain ⟨a1, a2, a3, a4, a5⟩ := rd_q hb hq hbn hg
  have d := div_err a1 nf_01 (by decide +kernel) (Nat.le_trans a5 (by decide +kernel))
  rw [c01_v] at d
  have et := eta_pos
  clear a1 a2 a4 a5 hb hq
  constructor <;> grind
