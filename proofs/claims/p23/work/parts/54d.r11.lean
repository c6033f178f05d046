/-! REAL VALUES 12: what isPoured and isAsked ask -/
theorem hset_twice {h : Nat → UInt64} {j : Nat} : hset (hset h j 0 0 0 0) j 0 0 0 0 = hset h j 0 0 0 0 := by
  funext i
  unfold hset
  by_cases c1 : i = j
  · rw [if_pos c1, if_pos c1]
  · rw [if_neg c1, if_neg c1]
    by_cases c2 : i = 8 + j
    · rw [if_pos c2, if_pos c2]
    · rw [if_neg c2, if_neg c2]
      by_cases c3 : i = 16 + j
      · rw [if_pos c3, if_pos c3]
      · rw [if_neg c3, if_neg c3]
        by_cases c4 : i = 24 + j
        · rw [if_pos c4, if_pos c4]
        · rw [if_neg c4, if_neg c4]
theorem clr_HB {m n j : Nat} {h : Nat → UInt64} (hn : n ≤ 8) (hb : HB m n h) (hj : j < n) : HB m n (hset h j 0 0 0 0) := HB_set hb hj hn (by unfold LB; decide +kernel) vB_0 vB_0 vB_0
theorem clr_r {m n j : Nat} {h : Nat → UInt64} {lam M : Rat} (hn : n ≤ 8) (hj : j < n) (hE : EZ n h) (hW : ∀ j, j < n → (h j).toNat = 0 ∨ lam ≤ rv (h j)) (hM0 : 0 ≤ M) (hA : ∀ j, j < n → rv (h (8 + j)) ≤ M) :
    EZ n (hset h j 0 0 0 0) ∧ (∀ i, i < n → (hset h j 0 0 0 0 i).toNat = 0 ∨ lam ≤ rv (hset h j 0 0 0 0 i)) ∧ (∀ i, i < n → rv (hset h j 0 0 0 0 (8 + i)) ≤ M) := by
  obtain ⟨z1, z2, z3, z4⟩ := hset_vals (h := h) (j := j)
  refine ⟨fun i hi hz => ?_, fun i hi => ?_, fun i hi => ?_⟩
  · by_cases c : i = j
    · subst c; exact ⟨z2, z3, z4⟩
    · rw [hset_ne (by omega) (by omega) c] at hz
      rw [hset_ne1 (by omega) (by omega) c (Or.inl rfl), hset_ne1 (by omega) (by omega) c (Or.inr (Or.inl rfl)), hset_ne1 (by omega) (by omega) c (Or.inr (Or.inr rfl))]
      exact hE i hi hz
  · by_cases c : i = j
    · subst c; rw [z1]; exact Or.inl rfl
    · rw [hset_ne (by omega) (by omega) c]; exact hW i hi
  · by_cases c : i = j
    · subst c; rw [z2, rv_zero]; exact hM0
    · rw [hset_ne1 (by omega) (by omega) c (Or.inl rfl)]; exact hA i hi
theorem pouF_of {m n j : Nat} {h : Nat → UInt64} (hn : n ≤ 8) (hb : HB m n h) (hj : j < n) : pouF n h j := by
  have hb1 := clr_HB hn hb hj
  have hl := (hb.2 j hj).1
  have sb0 := suL_bd hn hb (k := n) (Nat.le_refl n)
  have sb1 := suL_bd hn hb1 (k := n) (Nat.le_refl n)
  have t0 := suL_a hn hb
  have t1 := suL_a hn hb1
  have b := bd_add (sb1.mono (show 1085 ≤ 1100 by decide)) (hl.bd.mono (show 1082 ≤ 1100 by decide)) (by decide)
  have e := add_err sb1.1 hl.nf (bd_r b (by decide))
  have hS : SL (hset h j 0 0 0 0) n = SL h n - rv (h j) := by
    rw [SL_set n hn, if_pos hj, rv_zero]
    grind
  have r0 := hl.r
  refine ⟨(mn_ok (Or.inl rfl) hn hb).1.1, cmp_self hl.nf.nn.ne, (mn_ok (Or.inl rfl) hn hb1).1.1, b.1.nn.n64, near_of (b.mono (by decide)) (sb0.mono (by decide)) ?_ ?_⟩
  · generalize rv (FP.dadd (suL (hset h j 0 0 0 0) n) (h j)) = x1 at *
    generalize rv (suL (hset h j 0 0 0 0) n) = x2 at *
    generalize rv (suL h n) = x3 at *
    generalize SL (hset h j 0 0 0 0) n = S1 at *
    generalize SL h n = S0 at *
    generalize rv (h j) = l at *
    clear hb hb1
    grind
  · generalize rv (FP.dadd (suL (hset h j 0 0 0 0) n) (h j)) = x1 at *
    generalize rv (suL (hset h j 0 0 0 0) n) = x2 at *
    generalize rv (suL h n) = x3 at *
    generalize SL (hset h j 0 0 0 0) n = S1 at *
    generalize SL h n = S0 at *
    generalize rv (h j) = l at *
    clear hb hb1
    grind
/-! isAsked -/
theorem fbX_or {wd zs : Nat → Int32} {wm : Int32} {n : Nat} : ∀ (f a : Nat) (h : Nat → UInt64), fbX wd zs wm n f a h = -1 ∨ ∃ k, a ≤ k ∧ k < a + f ∧ fbX wd zs wm n f a h = nI k := by
  intro f
  induction f with
  | zero => exact fun a h => Or.inl rfl
  | succ f ih =>
    intro a h
    show (if 0 < stR wd zs wm n h then nI a else fbX wd zs wm n f (a + 1) (stH wd zs wm n h)) = -1 ∨ ∃ k, a ≤ k ∧ k < a + (f + 1) ∧ (if 0 < stR wd zs wm n h then nI a else fbX wd zs wm n f (a + 1) (stH wd zs wm n h)) = nI k
    by_cases c : 0 < stR wd zs wm n h
    · rw [if_pos c]
      exact Or.inr ⟨a, Nat.le_refl a, by omega, rfl⟩
    · rw [if_neg c]
      rcases ih (a + 1) (stH wd zs wm n h) with e | ⟨k, h1, h2, e⟩
      · exact Or.inl e
      · exact Or.inr ⟨k, by omega, by omega, e⟩
theorem fbv_r {wd zs : Nat → Int32} {wm df : Int32} {n : Nat} {h : Nat → UInt64} {q : UInt64} : ¬ fbv wd zs wm n h df q < -1 ∧ ¬ 60 < fbv wd zs wm n h df q ∧ (fbv wd zs wm n h df q = 0 ↔ 0 < rdv h n df q) := by
  unfold fbv
  by_cases c : 0 < rdv h n df q
  · rw [if_pos c]
    exact ⟨by decide, by decide, ⟨fun _ => c, fun _ => rfl⟩⟩
  · rw [if_neg c]
    rcases fbX_or (wd := wd) (zs := zs) (wm := wm) (n := n) 60 1 h with e | ⟨k, h1, h2, e⟩
    · rw [e]
      exact ⟨by decide, by decide, ⟨fun h9 => absurd h9 (by decide), fun h9 => absurd h9 c⟩⟩
    · rw [e]
      refine ⟨fun h9 => ?_, fun h9 => ?_, ⟨fun h9 => absurd h9 (nI_ne0 (by omega) (by omega)), fun h9 => absurd h9 c⟩⟩
      · rw [Int32.lt_iff_toInt_lt, nI_toInt (by omega)] at h9
        have : (-1 : Int32).toInt = -1 := by decide
        omega
      · rw [Int32.lt_iff_toInt_lt, nI_toInt (by omega)] at h9
        have : (60 : Int32).toInt = 60 := by decide
        omega
theorem n999 : BD 1084 4651998512748167168 ∧ rv 4651998512748167168 = 999 := by
  have h := rv_c (x := 4651998512748167168) 999 1074 0 1 (by unfold NN; decide +kernel) (by decide) (by decide +kernel) (by decide)
  exact ⟨⟨by unfold NF; decide +kernel, by decide +kernel⟩, by simpa using h⟩
theorem least_r {m n : Nat} {h : Nat → UInt64} (hm : m ≤ 400) (hb : HB m n h) : ∀ k, k ≤ n → BD (1084 + m) (leastv h k) ∧ ∀ i, i < k → gtz (h i) → rv (leastv h k) ≤ rv (h (8 + i)) := by
  intro k
  induction k with
  | zero => exact fun _ => ⟨n999.1.mono (by omega), fun i hi => absurd hi (Nat.not_lt_zero i)⟩
  | succ k ih =>
    intro hk
    obtain ⟨i1, i2⟩ := ih (by omega)
    have ha : BD (1074 + m) (h (8 + k)) := (hb.2 k (by omega)).2.1
    have hc := (cmp_rv ha.1.nn.ne i1.1.nn.ne).1
    show BD (1084 + m) (if FP.dcmp (h k) 0 = some .gt ∧ FP.dcmp (h (8 + k)) (leastv h k) = some .lt then h (8 + k) else leastv h k) ∧ ∀ i, i < k + 1 → gtz (h i) → rv (if FP.dcmp (h k) 0 = some .gt ∧ FP.dcmp (h (8 + k)) (leastv h k) = some .lt then h (8 + k) else leastv h k) ≤ rv (h (8 + i))
    by_cases c : FP.dcmp (h k) 0 = some .gt ∧ FP.dcmp (h (8 + k)) (leastv h k) = some .lt
    · rw [if_pos c]
      have h1 := hc.mp c.2
      refine ⟨ha.mono (by omega), fun i hi gi => ?_⟩
      by_cases e : i = k
      · subst e; exact Rat.le_refl
      · exact Rat.le_trans (Rat.le_of_lt h1) (i2 i (by omega) gi)
    · rw [if_neg c]
      refine ⟨i1, fun i hi gi => ?_⟩
      by_cases e : i = k
      · subst e
        exact Rat.not_lt.mp fun h9 => c ⟨gi, hc.mpr h9⟩
      · exact i2 i (by omega) gi
theorem most_r {m n : Nat} {h : Nat → UInt64} (hm : m ≤ 400) (hb : HB m n h) : ∀ k, k ≤ n → BD (1074 + m) (mostv h k) ∧ (∀ i, i < k → gtz (h i) → rv (h (8 + i)) ≤ rv (mostv h k)) ∧ (mostv h k = 0 ∨ ∃ i, i < k ∧ gtz (h i) ∧ mostv h k = h (8 + i)) := by
  intro k
  induction k with
  | zero => exact fun _ => ⟨bd_0 _, fun i hi => absurd hi (Nat.not_lt_zero i), Or.inl rfl⟩
  | succ k ih =>
    intro hk
    obtain ⟨i1, i2, i3⟩ := ih (by omega)
    have ha : BD (1074 + m) (h (8 + k)) := (hb.2 k (by omega)).2.1
    have hc := (cmp_rv ha.1.nn.ne i1.1.nn.ne).2.1
    show BD (1074 + m) (if FP.dcmp (h k) 0 = some .gt ∧ FP.dcmp (h (8 + k)) (mostv h k) = some .gt then h (8 + k) else mostv h k) ∧ (∀ i, i < k + 1 → gtz (h i) → rv (h (8 + i)) ≤ rv (if FP.dcmp (h k) 0 = some .gt ∧ FP.dcmp (h (8 + k)) (mostv h k) = some .gt then h (8 + k) else mostv h k)) ∧ ((if FP.dcmp (h k) 0 = some .gt ∧ FP.dcmp (h (8 + k)) (mostv h k) = some .gt then h (8 + k) else mostv h k) = 0 ∨ ∃ i, i < k + 1 ∧ gtz (h i) ∧ (if FP.dcmp (h k) 0 = some .gt ∧ FP.dcmp (h (8 + k)) (mostv h k) = some .gt then h (8 + k) else mostv h k) = h (8 + i))
    by_cases c : FP.dcmp (h k) 0 = some .gt ∧ FP.dcmp (h (8 + k)) (mostv h k) = some .gt
    · rw [if_pos c]
      have h1 := hc.mp c.2
      refine ⟨ha, fun i hi gi => ?_, Or.inr ⟨k, by omega, c.1, rfl⟩⟩
      by_cases e : i = k
      · subst e; exact Rat.le_refl
      · exact Rat.le_trans (i2 i (by omega) gi) (Rat.le_of_lt h1)
    · rw [if_neg c]
      refine ⟨i1, fun i hi gi => ?_, i3.imp id (fun ⟨i, h1, h2, h3⟩ => ⟨i, by omega, h2, h3⟩)⟩
      by_cases e : i = k
      · subst e
        exact Rat.not_lt.mp fun h9 => c ⟨gi, hc.mpr h9⟩
      · exact i2 i (by omega) gi
theorem PL_between {m n : Nat} {h : Nat → UInt64} {A B : Rat} (hb : HB m n h) (hA : ∀ j, j < n → gtz (h j) → A ≤ rv (h (8 + j))) (hB : ∀ j, j < n → gtz (h j) → rv (h (8 + j)) ≤ B) : ∀ k, k ≤ n → A * SL h k ≤ PL 8 h k ∧ PL 8 h k ≤ B * SL h k := by
  intro k
  induction k with
  | zero =>
    intro _
    show A * (0 : Rat) ≤ 0 ∧ (0 : Rat) ≤ B * 0
    constructor <;> grind
  | succ k ih =>
    intro hk
    obtain ⟨i1, i2⟩ := ih (by omega)
    have hl := (hb.2 k (by omega)).1
    show A * (SL h k + rv (h k)) ≤ PL 8 h k + rv (h k) * rv (h (8 + k)) ∧ PL 8 h k + rv (h k) * rv (h (8 + k)) ≤ B * (SL h k + rv (h k))
    by_cases g : gtz (h k)
    · have h1 := Rat.mul_le_mul_of_nonneg_left (hA k (by omega) g) hl.r.1
      have h2 := Rat.mul_le_mul_of_nonneg_left (hB k (by omega) g) hl.r.1
      clear hA hB ih
      constructor <;> grind
    · have hz : h k = 0 := toNat_0 (Nat.eq_zero_of_not_pos (fun h9 => g ((gtz_pos hl.nf.nn).mpr h9)))
      rw [hz, rv_zero]
      clear hA hB ih
      constructor <;> grind
theorem mean_between {m n : Nat} {h : Nat → UInt64} {lam A B : Rat} (hm : m ≤ 400) (hn : n ≤ 8) (hb : HB m n h) (hC : 2 * rv cL ≤ lam) (hW : ∀ j, j < n → (h j).toNat = 0 ∨ lam ≤ rv (h j)) (g : FP.dcmp (suL h n) 0 = some .gt) (hA0 : 0 ≤ A) (hA9 : A ≤ 1000) (hB9 : B ≤ 1000) (hA : ∀ j, j < n → gtz (h j) → A ≤ rv (h (8 + j))) (hB : ∀ j, j < n → gtz (h j) → rv (h (8 + j)) ≤ B) : A ≤ rv (mnv 8 h n) + 1 / 17179869184 ∧ rv (mnv 8 h n) ≤ B + 1 / 17179869184 := by
  have hf : (8 : Nat) = 8 ∨ (8 : Nat) = 16 ∨ (8 : Nat) = 24 := Or.inl rfl
  have b0 := mean_bd (f := 8) (by omega) hn hb hf hW hC
  obtain ⟨z0, z1, z2⟩ := mean_r (Or.inl rfl) (by omega) hn hb (hb.f hf) g (bd_r b0 (by omega))
  obtain ⟨h1, h1'⟩ := PL_between hb hA hB n (Nat.le_refl n)
  have h2 := SL_lam hb hW ((suL_gt hn hb).mp g)
  have h3 := lam_eta hC
  have et := eta_pos
  have cl0 : 0 < rv cL := (rv_pos nf_cL.nn).mpr (by decide)
  have hT : 0 < SL h n := by grind
  have h4 := Rat.mul_le_mul_of_nonneg_right hA9 (Rat.le_of_lt hT)
  have h6 := Rat.mul_le_mul_of_nonneg_right hB9 (Rat.le_of_lt hT)
  have h5 := (PL_two (f := 8) hb (fun i hi => (hb.f hf i hi).1.nn)).1
  have h7 := Rat.mul_nonneg hA0 (Rat.le_of_lt hT)
  constructor
  · refine Rat.le_of_mul_le_mul_right (c := SL h n) ?_ hT
    have m1 : (rv (mnv 8 h n) + 1 / 17179869184) * SL h n = rv (mnv 8 h n) * SL h n + SL h n / 17179869184 := by grind
    rw [m1]
    generalize rv (mnv 8 h n) * SL h n = ZT at *
    generalize A * SL h n = AT at *
    generalize B * SL h n = BT at *
    generalize SL h n = T at *
    generalize PL 8 h n = P at *
    generalize eta = t at *
    clear hA hB hW z0 b0
    grind
  · refine Rat.le_of_mul_le_mul_right (c := SL h n) ?_ hT
    have m1 : (B + 1 / 17179869184) * SL h n = B * SL h n + SL h n / 17179869184 := by grind
    rw [m1]
    generalize rv (mnv 8 h n) * SL h n = ZT at *
    generalize A * SL h n = AT at *
    generalize B * SL h n = BT at *
    generalize SL h n = T at *
    generalize PL 8 h n = P at *
    generalize eta = t at *
    clear hA hB hW z0 b0
    grind
theorem zv_m1 : zv 9223372036854775809 = -1 ∧ FP.Core.val64 9223372036854775809 ≠ .nan := ⟨by decide +kernel, (FP.Core.ne_nan _).mpr (by decide +kernel)⟩
theorem askF_of {m n : Nat} {wd zs : Nat → Int32} {wm df : Int32} {h : Nat → UInt64} {q : UInt64} {lam M : Rat} (hn0 : 0 < n) (hn : n ≤ 8) (hm7 : 7 ≤ m) (hm : m ≤ 300) (hz : ∀ i, i < n → ZB (zs i)) (hw : WB wm) (hq : QB q) (hz1 : zerI n wd) (hz2 : zerI n zs) (hb : HB m n h) (hC : 2 * rv cL ≤ lam) (hW : ∀ j, j < n → (h j).toNat = 0 ∨ lam ≤ rv (h j)) (hM0 : 0 ≤ M) (hM : M ≤ 199) (hA : ∀ j, j < n → rv (h (8 + j)) ≤ M) : askF n wd zs wm h df q := by
  have nh := hb.nnr
  have hfb := fb_ok (wd := wd) hz hw hn hb hm7 (by omega)
  have sb0 := suL_bd hn hb (k := n) (Nat.le_refl n)
  have mb := mean_bd (f := 8) (by omega) hn hb (Or.inl rfl) hW hC
  have lr := least_r (by omega) hb
  have mr := most_r (by omega) hb
  have hgt := suL_gt hn hb
  refine ⟨⟨(mn_ok (Or.inl rfl) hn hb).1.1, (mn_ok (Or.inl rfl) hn hb).1, nh, rd_ok hb hq, fun i hi => (hfb i hi).1, hz1, hz2, zer_st hn hb.1⟩,
    fun k hk => ⟨cmp_ne (hb.2 k hk).1.nf.nn.ne ne_0, cmp_ne (hb.2 k hk).2.1.1.nn.ne (lr k (by omega)).1.1.nn.ne, cmp_ne (hb.2 k hk).2.1.1.nn.ne (mr k (by omega)).1.1.nn.ne⟩, fbv_r, cmp_self sb0.1.nn.ne, cmp_self mb.1.nn.ne, cmp_ne sb0.1.nn.ne ne_0, fun h9 => ?_, fun h9 => ?_⟩
  · have hng : FP.dcmp (suL h n) 0 ≠ some .gt := by rw [h9]; exact fun h10 => nomatch h10
    refine ⟨by rw [mnv_0 hng]; exact d00, ?_⟩
    rcases elO_max nh n (Nat.le_refl n) with ⟨e, -⟩ | ⟨b, e, b1, b2, -⟩
    · exact e
    · exfalso
      have h10 := (gt_rv (hb.2 b b1).1.nf.nn).mp b2
      have h11 := (SL_ge hb n (Nat.le_refl n)).2 b b1
      exact hng (hgt.mpr (by grind))
  · have g : FP.dcmp (suL h n) 0 = some .gt := by
      refine (gt_rv sb0.1.nn).mpr ?_
      have h1 := rv_0 sb0.1.nn
      refine Rat.not_le.mp fun h10 => h9 ((cmp_rv sb0.1.nn.ne ne_0).2.2.mpr ?_)
      rw [rv_zero]
      exact Rat.le_antisymm h10 h1
    obtain ⟨i, hi, hip⟩ := SL_pos hb n (Nat.le_refl n) (hgt.mp g)
    have gi : gtz (h i) := (gtz_pos (hb.2 i hi).1.nf.nn).mpr hip
    obtain ⟨l1, l2⟩ := lr n (Nat.le_refl n)
    obtain ⟨k1, k2, k3⟩ := mr n (Nat.le_refl n)
    have la := Rat.le_trans (l2 i hi gi) (hA i hi)
    have hmost : rv (mostv h n) ≤ M := by
      rcases k3 with e | ⟨j, j1, j2, e⟩
      · rw [e, rv_zero]; exact hM0
      · rw [e]; exact hA j j1
    have l0 := rv_0 l1.1.nn
    obtain ⟨u1, u2⟩ := mean_between (by omega) hn hb hC hW g l0 (by grind) (by grind) l2 k2
    have z0 := rv_0 mb.1.nn
    have b6 := bd_add (k1.mono (show 1074 + m ≤ 1074 + m + 1 by omega)) (bd_c6.mono (show 1074 ≤ 1074 + m + 1 by omega)) (by omega)
    have e6 := add_err k1.1 nf_c6 (bd_r b6 (by omega))
    rw [c6_v] at e6
    have hsne := dsub_ne l1.1.fin nf_c6.fin
    refine ⟨n64_of hsne, (cmp_rv mb.1.nn.ne hsne).2.1.mpr ?_, b6.1.nn.n64, (cmp_rv mb.1.nn.ne b6.1.nn.ne).1.mpr ?_, ?_⟩
    · by_cases c : (c6 : UInt64).toNat ≤ (leastv h n).toNat
      · have s := (sub_err l1.1 nf_c6 c (bd_r l1 (by omega))).2.1
        rw [c6_v] at s
        clear hA hW lr mr l2 k2 k3 hfb
        grind
      · have c' := ud_lt.mpr (Nat.lt_of_not_le c)
        have h1 := zsub_le l1.1.fin nf_c6.fin zv_m1.2 (by rw [zv_m1.1, l1.1.nn.uz, nf_c6.nn.uz]; omega)
        rw [zv_m1.1] at h1
        have h2 : rv (FP.dsub (leastv h n) c6) < rv 0 := rv_lt.mpr (by rw [zv_0]; omega)
        rw [rv_zero] at h2
        grind
    · have h1 := e6.2
      have m0 := rv_0 k1.1.nn
      clear hA hW lr mr l2 k2 k3 hfb
      grind
    · rcases elO_max nh n (Nat.le_refl n) with ⟨-, c⟩ | ⟨b, e, b1, b2, b3⟩
      · exact absurd gi (c i hi)
      · refine ⟨b, e, b1, (cmp_rv (hb.2 b b1).2.1.1.nn.ne k1.1.nn.ne).2.2.mpr (Rat.le_antisymm (k2 b b1 b2) ?_)⟩
        rcases k3 with e3 | ⟨j, j1, j2, e3⟩
        · rw [e3, rv_zero]
          exact rv_0 (hb.2 b b1).2.1.1.nn
        · rw [e3]
          exact (rv_leN (hb.2 j j1).2.1.1.nn (hb.2 b b1).2.1.1.nn).mpr (b3 j j1 j2)
