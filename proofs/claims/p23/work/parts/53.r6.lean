/-! REAL VALUES 7: what isMoved asks -/
/-- the least litres' half -/
abbrev cL : UInt64 := 2355382605114769408
theorem nf_cL : NF cL := by unfold NF; decide +kernel
theorem ud_cL : ud cL = 2 ^ 574 := by decide +kernel
theorem cL_toNat : cL.toNat = 523 * 2 ^ 52 := by decide +kernel
theorem cL_eta : eta * 1606938044258990275541962092341162602522202993782792835301376 ≤ rv cL := by
  rw [rv_u nf_cL.nn, ud_cL]
  have h : ((1606938044258990275541962092341162602522202993782792835301376 : Nat) : Rat) ≤ ((2 ^ 574 : Nat) : Rat) := Rat.natCast_le_natCast.mpr (by decide +kernel)
  have h1 := Rat.mul_le_mul_of_nonneg_right h (Rat.le_of_lt eta_pos)
  have h2 : ((1606938044258990275541962092341162602522202993782792835301376 : Nat) : Rat) = 1606938044258990275541962092341162602522202993782792835301376 := rfl
  rw [h2] at h1
  rw [Rat.mul_comm]
  exact h1
theorem lam_eta {lam : Rat} (h : 2 * rv cL ≤ lam) : eta * 1606938044258990275541962092341162602522202993782792835301376 ≤ lam := by
  have h1 := cL_eta
  have h2 := rv_0 nf_cL.nn
  grind
theorem SL_pos {n : Nat} {h : Nat → UInt64} {m : Nat} (hb : HB m n h) : ∀ k, k ≤ n → 0 < SL h k → ∃ i, i < k ∧ 0 < (h i).toNat := by
  intro k
  induction k with
  | zero => exact fun _ h9 => absurd h9 Rat.lt_irrefl
  | succ k ih =>
    intro hk h9
    by_cases h1 : 0 < (h k).toNat
    · exact ⟨k, by omega, h1⟩
    · have h2 : rv (h k) = 0 := by rw [toNat_0 (show (h k).toNat = 0 by omega), rv_zero]
      have h3 : 0 < SL h k := by
        have h9 : 0 < SL h k + rv (h k) := h9
        rw [h2] at h9
        grind
      obtain ⟨i, hi, h4⟩ := ih (by omega) h3
      exact ⟨i, by omega, h4⟩
theorem SL_lam {n m : Nat} {h : Nat → UInt64} {lam : Rat} (hb : HB m n h) (hW : ∀ j, j < n → (h j).toNat = 0 ∨ lam ≤ rv (h j)) (h9 : 0 < SL h n) : lam ≤ SL h n := by
  obtain ⟨i, hi, h1⟩ := SL_pos hb n (Nat.le_refl n) h9
  exact Rat.le_trans ((hW i hi).resolve_left (by omega)) ((SL_ge hb n (Nat.le_refl n)).2 i hi)
/-- something is there -/
theorem suL_gt {n m : Nat} {h : Nat → UInt64} (hn : n ≤ 8) (hb : HB m n h) : FP.dcmp (suL h n) 0 = some .gt ↔ 0 < SL h n := by
  have b1 := suL_bd hn hb (k := n) (Nat.le_refl n)
  rw [gt_rv b1.1.nn]
  have a := suL_a hn hb
  constructor
  · intro h1
    generalize rv (suL h n) = s at *
    generalize SL h n = S at *
    grind
  · intro h1
    generalize rv (suL h n) = s at *
    generalize SL h n = S at *
    grind
theorem mean_bd {n m f : Nat} {h : Nat → UInt64} {lam : Rat} (hm : m ≤ 400) (hn : n ≤ 8) (hb : HB m n h) (hf : f = 8 ∨ f = 16 ∨ f = 24) (hW : ∀ j, j < n → (h j).toNat = 0 ∨ lam ≤ rv (h j)) (hC : 2 * rv cL ≤ lam) : BD (1590 + m) (mnv f h n) := by
  unfold mnv
  by_cases g : FP.dcmp (suL h n) 0 = some .gt
  · rw [if_pos g]
    have b1 := suL_bd hn hb (k := n) (Nat.le_refl n)
    have b2 := suP_bd (f := f) (by omega) hn hb (hb.f hf) n (Nat.le_refl n)
    have h1 := SL_lam hb hW ((suL_gt hn hb).mp g)
    have a := suL_a hn hb
    have h2 : rv cL ≤ rv (suL h n) := by
      have c0 := rv_0 nf_cL.nn
      generalize rv (suL h n) = s at *
      generalize SL h n = S at *
      generalize rv cL = c at *
      grind
    have h3 := ud_of_le ((rv_leN nf_cL.nn b1.1.nn).mp h2)
    rw [ud_cL] at h3
    have h4 : 0 < (suL h n).toNat := (ge_0 b1.1.nn).mp g
    obtain ⟨V, fV, u⟩ := big (1590 + m) (by omega)
    have h5 := ud_of_le (ddiv_le (v := V) b2.1 b1.1 h4 (by
      rw [u]
      refine Nat.le_trans (Nat.mul_le_mul_right _ b2.2) ?_
      refine Nat.le_trans ?_ (Nat.mul_le_mul_left _ h3)
      rw [← Nat.pow_add, ← Nat.pow_add]
      exact Nat.pow_le_pow_right (by decide) (by omega)))
    exact ⟨nf_top (nn_ddiv b2.1.nn b1.1 h4) fV h5, by rw [← u]; exact h5⟩
  · rw [if_neg g]
    exact bd_0 _
theorem mean_near {Z Z' T T' P P' t lam : Rat} (hZ : 0 ≤ Z) (hZ' : 0 ≤ Z') (ht : 0 ≤ t) (hP : 0 ≤ P) (hP' : 0 ≤ P') (a1 : Z * T ≤ P + 64 * P / 4503599627370496 + 8192 * t) (a2 : P - 64 * P / 4503599627370496 - 8192 * t ≤ Z * T) (b1 : Z' * T' ≤ P' + 64 * P' / 4503599627370496 + 8192 * t) (b2 : P' - 64 * P' / 4503599627370496 - 8192 * t ≤ Z' * T') (c1 : T' ≤ T + 16 * T / 4503599627370496) (c2 : T - 16 * T / 4503599627370496 ≤ T') (d1 : P' ≤ P + 64 * P / 4503599627370496 + 16000 * t) (d2 : P - 64 * P / 4503599627370496 - 16000 * t ≤ P') (hl : t * 1606938044258990275541962092341162602522202993782792835301376 ≤ lam) (hT : lam ≤ T) (hlp : 0 < lam) : (Z' - Z) * 1073741824 ≤ 1 + Z' ∧ (Z - Z') * 1073741824 ≤ 1 + Z' := by
  have w1 := Rat.mul_le_mul_of_nonneg_left c1 hZ
  have w2 := Rat.mul_le_mul_of_nonneg_left c2 hZ
  have m1 : Z * (T + 16 * T / 4503599627370496) = Z * T + 16 * (Z * T) / 4503599627370496 := by grind
  have m2 : Z * (T - 16 * T / 4503599627370496) = Z * T - 16 * (Z * T) / 4503599627370496 := by grind
  rw [m1] at w1
  rw [m2] at w2
  have hT' : 0 < T' := by grind
  have n1 : (Z' - Z) * 1073741824 * T' = (Z' * T' - Z * T') * 1073741824 := by grind
  have n2 : (1 + Z') * T' = T' + Z' * T' := by grind
  have n3 : (Z - Z') * 1073741824 * T' = (Z * T' - Z' * T') * 1073741824 := by grind
  constructor
  · refine Rat.le_of_mul_le_mul_right (c := T') ?_ hT'
    rw [n1, n2]
    generalize Z * T = ZT at *
    generalize Z * T' = ZT' at *
    generalize Z' * T' = Z'T' at *
    clear n1 n2 n3 m1 m2
    grind
  · refine Rat.le_of_mul_le_mul_right (c := T') ?_ hT'
    rw [n3, n2]
    generalize Z * T = ZT at *
    generalize Z * T' = ZT' at *
    generalize Z' * T' = Z'T' at *
    clear n1 n2 n3 m1 m2
    grind
theorem mnv_0 {f n : Nat} {h : Nat → UInt64} (g : FP.dcmp (suL h n) 0 ≠ some .gt) : mnv f h n = 0 := if_neg g
theorem suPok_of {m n f : Nat} {h : Nat → UInt64} (hm : m ≤ 800) (hn : n ≤ 8) (hb : HB m n h) (hf : f = 8 ∨ f = 16 ∨ f = 24) : suPok f h n := fun k hk => by
  have b1 := suP_bd hm hn hb (hb.f hf) (k + 1) (by omega)
  have b2 := bd_mul (hb.2 k hk).1.bd (hb.f hf k hk).bd (by omega) (by omega)
  exact ⟨b2.1.nn.n64, b1.1.nn.n64⟩
theorem tas_n64 {l a b c : UInt64} (h : FP.dcmp l 0 = some .gt → tasok a b c) : FP.Core.val64 (tasv l a b c) ≠ .nan := by
  unfold tasv
  by_cases g : FP.dcmp l 0 = some .gt
  · rw [if_pos g]
    have h1 := (h g).2.2.2.2.2.2
    unfold vf_n64 at h1
    rw [UInt64.le_iff_toNat_le, FP.Core.mask_toNat] at h1
    have h2 : (0x7ff0000000000000 : UInt64).toNat = 9218868437227405312 := by decide +kernel
    exact (FP.Core.ne_nan _).mpr (by omega)
  · rw [if_neg g]
    exact ne_0
theorem cmp_self {x : UInt64} (h : FP.Core.val64 x ≠ .nan) : FP.dcmp x x = some .eq := (cmp_rv h h).2.2.mpr rfl
theorem movF_of {m n : Nat} {zs : Nat → Int32} {h : Nat → UInt64} {lam M : Rat} (hn0 : 0 < n) (hn : n ≤ 8) (hm7 : 7 ≤ m) (hm : m ≤ 300) (hz : ∀ i, i < n → ZB (zs i)) (hb : HB m n h) (hE : EZ n h) (hC : 2 * rv cL ≤ lam) (hl1 : lam ≤ 1) (hW : ∀ j, j < n → (h j).toNat = 0 ∨ lam ≤ rv (h j)) (hM0 : 0 ≤ M) (hM : M ≤ 199) (hA : ∀ j, j < n → rv (h (8 + j)) ≤ M) (hC4 : 2 * rv cL ≤ lam / 4) :
    movF n zs h ∧ EZ n (toH zs (n - 1) h) ∧ (∀ j, j < n → (toH zs (n - 1) h j).toNat = 0 ∨ lam / 4 ≤ rv (toH zs (n - 1) h j)) ∧ (∀ j, j < n → rv (toH zs (n - 1) h (8 + j)) ≤ M + 1 / 68719476736) ∧ (toH zs (n - 1) h 0).toNat ≤ (h 0).toNat := by
  have hl0 := lam_eta hC
  have et := eta_pos
  have cl0 : 0 < rv cL := (rv_pos nf_cL.nn).mpr (by decide)
  have hlp : 0 < lam := by grind
  obtain ⟨t1, t2, t3⟩ := to_HB hz hn (by omega) hb
  have hkr := kr_le (k := n - 1) (by omega)
  obtain ⟨i0, i1, i2, i3, i4, i5⟩ := to_r hz hn hl0 hl1 (n - 1) m h M (by omega) (by omega) hb hE (fun j hj => hW j (by omega)) (fun j hj => (hW j hj).imp id (fun h9 => by grind)) hM0 (by grind) hA
  obtain ⟨k1, k2, k3, k4⟩ := to_0 hz hn (n - 1) m h 0 0 (by omega) (by omega) hb (bd_0 _) (by omega)
  rw [rv_zero] at k2
  have hW' : ∀ j, j < n → (toH zs (n - 1) h j).toNat = 0 ∨ lam / 4 ≤ rv (toH zs (n - 1) h j) := i2
  have s0 := suL_a hn hb
  have s1 := suL_a hn t3
  have sb0 := suL_bd hn hb (k := n) (Nat.le_refl n)
  have sb1 := suL_bd hn t3 (k := n) (Nat.le_refl n)
  have w0 := Rat.mul_le_mul_of_nonneg_right hkr.2 s0.1
  -- all litres
  have c1 : SL (toH zs (n - 1) h) n ≤ SL h n + 16 * SL h n / 4503599627370496 := by
    have := i4.1
    generalize ((n - 1 : Nat) : Rat) * SL h n = KS at *
    grind
  have c2 : SL h n - 16 * SL h n / 4503599627370496 ≤ SL (toH zs (n - 1) h) n := by
    have := i4.2
    generalize ((n - 1 : Nat) : Rat) * SL h n = KS at *
    grind
  have gg : FP.dcmp (suL (toH zs (n - 1) h) n) 0 = some .gt ↔ FP.dcmp (suL h n) 0 = some .gt := by
    rw [suL_gt hn t3, suL_gt hn hb]
    generalize SL (toH zs (n - 1) h) n = S1 at *
    generalize SL h n = S0 at *
    have a0 := s0.1
    have a1 := s1.1
    clear s0 s1 w0 i4
    constructor <;> intro h9 <;> grind
  have nL : near (suL (toH zs (n - 1) h) n) (suL h n) := by
    refine near_of (sb1.mono (by decide)) (sb0.mono (by decide)) ?_ ?_
    · generalize rv (suL (toH zs (n - 1) h) n) = r1 at *
      generalize rv (suL h n) = r0 at *
      generalize SL (toH zs (n - 1) h) n = S1 at *
      generalize SL h n = S0 at *
      clear i3 i5 k4 w0 i4 hA hW
      grind
    · generalize rv (suL (toH zs (n - 1) h) n) = r1 at *
      generalize rv (suL h n) = r0 at *
      generalize SL (toH zs (n - 1) h) n = S1 at *
      generalize SL h n = S0 at *
      clear i3 i5 k4 w0 i4 hA hW
      grind
  have d12 : ∀ f, (f = 8 ∨ f = 16 ∨ f = 24) → PL f (toH zs (n - 1) h) n ≤ PL f h n + 64 * PL f h n / 4503599627370496 + 16000 * eta ∧ PL f h n - 64 * PL f h n / 4503599627370496 - 16000 * eta ≤ PL f (toH zs (n - 1) h) n := fun f hf => by
    have q := i5 f hf
    have p0 := (PL_two (f := f) hb (fun i hi => (hb.f hf i hi).1.nn)).1
    have w1 := Rat.mul_le_mul_of_nonneg_right hkr.2 p0
    have w2 := Rat.mul_le_mul_of_nonneg_right hkr.2 (Rat.le_of_lt et)
    have m4 : 2000 * ((n - 1 : Nat) : Rat) * eta = 2000 * (((n - 1 : Nat) : Rat) * eta) := by grind
    rw [m4] at q
    generalize ((n - 1 : Nat) : Rat) * PL f h n = KP at *
    generalize ((n - 1 : Nat) : Rat) * eta = Kt at *
    generalize PL f (toH zs (n - 1) h) n = P1 at *
    generalize PL f h n = P0 at *
    clear i3 i5 k4 w0 i4 hA hW nL gg
    constructor <;> grind
  have nA : near (suP 16 (toH zs (n - 1) h) n) (suP 16 h n) := by
    have hf : (16 : Nat) = 8 ∨ (16 : Nat) = 16 ∨ (16 : Nat) = 24 := Or.inr (Or.inl rfl)
    have q := d12 16 hf
    have b0 := suP_bd (by omega) hn hb (hb.f hf) n (Nat.le_refl n)
    have b1 := suP_bd (by omega) hn t3 (t3.f hf) n (Nat.le_refl n)
    have a0 := suP_a (by omega) hn hb (hb.f hf)
    have a1 := suP_a (by omega) hn t3 (t3.f hf)
    have e7 := eta_le 60 1152921504606846976 (by decide) (by decide)
    refine near_of (b1.mono (by omega)) (b0.mono (by omega)) ?_ ?_
    · generalize rv (suP 16 (toH zs (n - 1) h) n) = r1 at *
      generalize rv (suP 16 h n) = r0 at *
      generalize PL 16 (toH zs (n - 1) h) n = S1 at *
      generalize PL 16 h n = S0 at *
      clear i3 i5 k4 w0 i4 hA hW nL gg d12 c1 c2 s0 s1
      grind
    · generalize rv (suP 16 (toH zs (n - 1) h) n) = r1 at *
      generalize rv (suP 16 h n) = r0 at *
      generalize PL 16 (toH zs (n - 1) h) n = S1 at *
      generalize PL 16 h n = S0 at *
      clear i3 i5 k4 w0 i4 hA hW nL gg d12 c1 c2 s0 s1
      grind
  have nM : ∀ f, (f = 8 ∨ f = 24) → near (mnv f (toH zs (n - 1) h) n) (mnv f h n) := fun f hf => by
    have hf3 : f = 8 ∨ f = 16 ∨ f = 24 := hf.imp id Or.inr
    have b0 := mean_bd (f := f) (by omega) hn hb hf3 hW hC
    have b1 := mean_bd (f := f) (by omega) hn t3 hf3 hW' hC4
    by_cases g : FP.dcmp (suL h n) 0 = some .gt
    · obtain ⟨z0, z1, z2⟩ := mean_r hf (by omega) hn hb (hb.f hf3) g (bd_r b0 (by omega))
      obtain ⟨y0, y1, y2⟩ := mean_r hf (by omega) hn t3 (t3.f hf3) (gg.mpr g) (bd_r b1 (by omega))
      have q := d12 f hf3
      obtain ⟨r1, r2⟩ := mean_near (rv_0 z0) (rv_0 y0) (Rat.le_of_lt et) (PL_two (f := f) hb (fun i hi => (hb.f hf3 i hi).1.nn)).1 (PL_two (f := f) t3 (fun i hi => (t3.f hf3 i hi).1.nn)).1 z1 z2 y1 y2 c1 c2 q.1 q.2 hl0 (SL_lam hb hW ((suL_gt hn hb).mp g)) hlp
      exact near_of (b1.mono (by omega)) (b0.mono (by omega)) r1 r2
    · rw [mnv_0 g, mnv_0 (fun h9 => g (gg.mp h9))]
      refine near_of (bd_0 _) (bd_0 _) ?_ ?_ <;> rw [rv_zero] <;> grind
  have hN0 := (hb.2 0 hn0).1
  have hN1 := (t3.2 0 hn0).1
  have n0 := hN0.nf.nn
  have n1 := hN1.nf.nn
  have mvb := k1
  -- the first barrel
  have hle : (toH zs (n - 1) h 0).toNat ≤ (h 0).toNat := by
    rcases k4 with e | ⟨g, g1, g2, g3, g4, e⟩
    · rw [e]; exact Nat.le_refl _
    · rw [e]; exact (dsub_pos hN0.nf g1.nf g3).2.2
  have hts := tas_all hb hm7 (by omega) 0 hn0
  have hts1 := tas_all t3 (by omega) (by omega) 0 hn0
  have hpos : 0 < (h 0).toNat ↔ 0 < (toH zs (n - 1) h 0).toNat := by
    rcases k4 with e | ⟨g, g1, g2, g3, g4, e⟩
    · rw [e]
    · rw [e]
      have := (dsub_pos hN0.nf g1.nf g3).2.1
      omega
  refine ⟨⟨⟨hn0, (mn_ok (Or.inl rfl) hn hb).1.1, suPok_of (by omega) hn hb (Or.inr (Or.inl rfl)), (mn_ok (Or.inl rfl) hn hb).1, (mn_ok (Or.inr rfl) hn hb).1, hts, t1⟩,
    ⟨(mn_ok (Or.inl rfl) hn t3).1.1, suPok_of (by omega) hn t3 (Or.inr (Or.inl rfl)), (mn_ok (Or.inl rfl) hn t3).1, (mn_ok (Or.inr rfl) hn t3).1, hts1⟩,
    ⟨cmp_ne mvb.1.nn.ne ne_0, fun h9 => ?_⟩, nL, nA, nM 8 (Or.inl rfl), nM 24 (Or.inr rfl), ⟨cmp_ne n1.ne n0.ne, fun h9 => ?_⟩, ?_, ?_, fun h9 => ?_⟩, i1, i2, fun j hj => ?_, hle⟩
  · have := (cmp_rv mvb.1.nn.ne ne_0).1.mp h9
    rw [rv_zero] at this
    grind
  · have := (cmp_nn n1 n0).2.2.mp h9
    omega
  · have b := bd_add (mvb.mono (show 1081 + 0 + (n - 1) ≤ 1100 by omega)) (bd_c6.mono (show 1074 ≤ 1100 by decide)) (by decide)
    have e := add_err mvb.1 nf_c6 (bd_r b (by decide))
    rw [c6_v] at e
    have s := sub_err hN0.nf hN1.nf hle (bd_r hN0.bd (by decide))
    refine ⟨s.1.nn.n64, b.1.nn.n64, cmp_ne s.1.nn.ne b.1.nn.ne, fun h9 => ?_⟩
    have h10 := (cmp_rv s.1.nn.ne b.1.nn.ne).2.1.mp h9
    have r0 := hN0.r
    have key : rv (h 0) - rv (toH zs (n - 1) h 0) ≤ rv (toS zs (n - 1) h 0) + 1 / 1099511627776 := by
      rcases k4 with e | ⟨g, g1, g2, g3, g4, e⟩
      · rw [e]
        grind
      · rw [e]
        have q := (sub_err hN0.nf g1.nf (Nat.le_of_lt g3) (bd_r hN0.bd (by decide))).2.2
        have q0 := rv_0 g1.nf.nn
        generalize rv (FP.dsub (h 0) g) = z at *
        generalize rv (h 0) = l at *
        generalize rv g = gg0 at *
        generalize rv (toS zs (n - 1) h 0) = S at *
        clear i3 i5 w0 i4 hA hW nL gg d12 c1 c2 s0 s1 nM nA
        grind
    have key2 : rv (h 0) - rv (toH zs (n - 1) h 0) ≤ 200 := by
      have := hN1.r
      grind
    have s1' := s.2.1
    have e2 := e.2
    generalize rv (FP.dsub (h 0) (toH zs (n - 1) h 0)) = z at *
    generalize rv (FP.dadd (toS zs (n - 1) h 0) 4517329193108106637) = y at *
    generalize rv (h 0) - rv (toH zs (n - 1) h 0) = dl at *
    generalize rv (toS zs (n - 1) h 0) = S at *
    clear i3 i5 w0 i4 hA hW nL gg d12 c1 c2 s0 s1 nM nA k4 e s
    grind
  · rw [k3.1, k3.2.1, k3.2.2]
    have q0 := ge_0 n0
    have q1 := ge_0 n1
    have hx : tasv (toH zs (n - 1) h 0) (h (8 + 0)) (h (16 + 0)) (h (24 + 0)) = tasv (h 0) (h (8 + 0)) (h (16 + 0)) (h (24 + 0)) := by
      unfold tasv
      by_cases g : 0 < (h 0).toNat
      · rw [if_pos (q1.mpr (hpos.mp g)), if_pos (q0.mpr g)]
      · rw [if_neg (fun h9 => g (hpos.mpr (q1.mp h9))), if_neg (fun h9 => g (q0.mp h9))]
    rw [hx]
    exact cmp_self (tas_n64 hts.2)
  · rcases k4 with e | ⟨g, g1, g2, g3, g4, e⟩
    · rw [e]
      exact cmp_self n0.ne
    · exfalso
      refine h9 ((gt_rv mvb.1.nn).mpr ?_)
      have := (rv_pos g1.nf.nn).mpr g2
      grind
  · have := i3 j hj
    grind
