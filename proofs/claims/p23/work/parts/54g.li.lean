/-! THE INVARIANT of the law's turns -/
def Lm (t : Nat) : Rat := ((2 ^ (60 + 2 * t) : Nat) : Rat)⁻¹
theorem Lm_mul (t : Nat) : Lm t * ((2 ^ (60 + 2 * t) : Nat) : Rat) = 1 := Rat.inv_mul_cancel _ (Rat.ne_of_gt (Rat.natCast_pos.mpr (Nat.two_pow_pos _)))
theorem Lm_pos (t : Nat) : 0 < Lm t := Rat.inv_pos.mpr (Rat.natCast_pos.mpr (Nat.two_pow_pos _))
theorem Lm_s (t : Nat) : Lm (t + 1) = Lm t / 4 := by
  have h1 := Lm_mul t
  have h2 := Lm_mul (t + 1)
  have h3 : ((2 ^ (60 + 2 * (t + 1)) : Nat) : Rat) = ((2 ^ (60 + 2 * t) : Nat) : Rat) * 4 := by
    rw [show 60 + 2 * (t + 1) = 60 + 2 * t + 2 by omega, Nat.pow_add, Rat.natCast_mul]
    rfl
  rw [h3] at h2
  generalize ((2 ^ (60 + 2 * t) : Nat) : Rat) = P at *
  generalize Lm (t + 1) = a at *
  generalize Lm t = b at *
  grind
theorem Lm_small (t : Nat) : Lm t ≤ 1 / 72057594037927936 := by
  have h1 := Lm_mul t
  have h2 : ((72057594037927936 : Nat) : Rat) ≤ ((2 ^ (60 + 2 * t) : Nat) : Rat) := Rat.natCast_le_natCast.mpr (Nat.le_trans (show 72057594037927936 ≤ 2 ^ 60 by decide) (Nat.pow_le_pow_right (by decide) (by omega)))
  have h3 : ((72057594037927936 : Nat) : Rat) = 72057594037927936 := rfl
  rw [h3] at h2
  have h4 := Rat.mul_le_mul_of_nonneg_left h2 (Rat.le_of_lt (Lm_pos t))
  rw [h1] at h4
  generalize Lm t = a at *
  clear h1 h2 h3
  grind
theorem Lm_big {t : Nat} (ht : t ≤ 150) : 2 * rv cL ≤ Lm t / 4 := by
  have h1 := Lm_mul t
  have h2 : ((2 ^ 577 * 2 ^ (60 + 2 * t) : Nat) : Rat) ≤ QU := Rat.natCast_le_natCast.mpr (by
    rw [← Nat.pow_add]
    exact Nat.pow_le_pow_right (by decide) (by omega))
  rw [Rat.natCast_mul] at h2
  have h3 := Rat.mul_le_mul_of_nonneg_right h2 (Rat.le_of_lt eta_pos)
  have h4 := eta_QU
  have h5 : rv cL * 8 = ((2 ^ 577 : Nat) : Rat) * eta := by
    rw [rv_u nf_cL.nn, ud_cL]
    have : ((2 ^ 577 : Nat) : Rat) = ((2 ^ 574 : Nat) : Rat) * 8 := by
      rw [show (2 : Nat) ^ 577 = 2 ^ 574 * 8 from by rw [show 577 = 574 + 3 by decide, Nat.pow_add], Rat.natCast_mul]
      rfl
    rw [this]
    generalize ((2 ^ 574 : Nat) : Rat) = A at *
    grind
  have hp : 0 < ((2 ^ (60 + 2 * t) : Nat) : Rat) := Rat.natCast_pos.mpr (Nat.two_pow_pos _)
  have h6 : rv cL * 8 ≤ Lm t := by
    refine Rat.le_of_mul_le_mul_right (c := ((2 ^ (60 + 2 * t) : Nat) : Rat)) ?_ hp
    rw [h1, h5]
    generalize ((2 ^ (60 + 2 * t) : Nat) : Rat) = P at *
    generalize ((2 ^ 577 : Nat) : Rat) = A at *
    generalize eta = e at *
    generalize QU = Q at *
    clear h5
    grind
  grind
def LI : LIT := fun t n F yg wm _ q wd zs h _ =>
  t ≤ 140 ∧ 0 < n ∧ n ≤ 8 ∧ 10 ≤ F ∧ F ≤ 100 ∧ zs 0 = nI F ∧ (∀ i, i < n → ZB (zs i)) ∧ WB wm ∧ QB q ∧ zerI n wd ∧ zerI n zs ∧ HB (7 + t) n h ∧ EZ n h ∧ (∀ j, j < n → (h j).toNat = 0 ∨ Lm t ≤ rv (h j)) ∧
  (∃ Y : Nat, Y ≤ t ∧ yg = nI Y ∧ ∀ j, j < n → rv (h (8 + j)) ≤ ((Y : Nat) : Rat) + ((t : Nat) : Rat) / 68719476736) ∧ rv (h 0) ≤ ((F : Nat) : Rat) + 1 / 1099511627776
theorem cast_s (t : Nat) : ((t + 1 : Nat) : Rat) = ((t : Nat) : Rat) + 1 := by
  rw [Rat.natCast_add]; rfl
theorem rvle {n m : Nat} {h h' : Nat → UInt64} (hb : BB m h 0) (hb' : BB n h' 0) (hl : (h' 0).toNat ≤ (h 0).toNat) {B : Rat} (h0 : rv (h 0) ≤ B) : rv (h' 0) ≤ B := Rat.le_trans ((rv_leN hb'.1.nf.nn hb.1.nf.nn).mpr hl) h0
theorem LI_step : LSt LI := by
  have tr : ∀ t : Nat, t ≤ 140 → 0 ≤ ((t : Nat) : Rat) ∧ ((t : Nat) : Rat) ≤ 140 := fun t ht => ⟨Rat.natCast_nonneg, by
    have h := rle ht
    have e : ((140 : Nat) : Rat) = 140 := rfl
    rw [e] at h
    exact h⟩
  have lmw : ∀ t : Nat, Lm (t + 1) ≤ Lm t := fun t => by
    have h1 := Lm_s t
    have h2 := Lm_pos t
    rw [h1]
    grind
  have l1 : ∀ t, Lm t ≤ 1 := fun t => by
    have := Lm_small t
    grind
  have lC : ∀ t, t ≤ 150 → 2 * rv cL ≤ Lm t := fun t ht => by
    have h1 := Lm_big ht
    have h2 := Lm_pos t
    grind
  refine ⟨?_, ?_, ?_, ?_, ?_, ?_, ?_, ?_, ?_⟩
  · intro t n F yg wm df q wd zs h dk ⟨_, a, b, _⟩
    exact ⟨a, b⟩
  · intro t n F yg wm df q wd zs h dk ⟨h1, h2, h3, h4, h5, h6, h7, h8, h9, h10, h11, h12, h13, h14, ⟨Y, hY1, hY2, hY3⟩, h16⟩ ht w hw1 hw2
    obtain ⟨t0, t1⟩ := tr t h1
    obtain ⟨y0, y1⟩ := tr Y (by omega)
    have hM0 : 0 ≤ ((Y : Nat) : Rat) + ((t : Nat) : Rat) / 68719476736 := by grind
    have hM : ((Y : Nat) : Rat) + ((t : Nat) : Rat) / 68719476736 ≤ 199 := by grind
    refine ⟨filF_of h2 h3 (by omega) (by omega) h4 h5 h7 h6 h12 h9 h13 (lC t (by omega)) (l1 t) h14 hM0 hM hY3 h16 hw1 hw2, ?_⟩
    obtain ⟨R, -, -, -, -, r4, -, -, r7, r8, r9⟩ := fil_num h2 h3 (by omega) (by omega) h4 h5 h6 h12 h13 (lC t (by omega)) (l1 t) h14 hM0 hM hY3 h16 hw1 hw2
    have hb1 := pmH_HB h7 h12 h3 (sz_d hw2).1 (by omega) (by omega)
    refine ⟨by omega, h2, h3, h4, h5, h6, h7, h8, h9, h10, h11, by rw [show 7 + (t + 1) = 7 + t + 1 by omega]; exact hb1, r7, fun j hj => (r8 j hj).imp id (fun h => Rat.le_trans (lmw t) h), ⟨Y, by omega, hY2, fun j hj => ?_⟩, r4⟩
    have := r9 j hj
    rw [cast_s]
    clear hY3 h14 r8 r9 tr lmw l1 lC
    grind
  · intro t n F yg wm df q wd zs h dk ⟨h1, h2, h3, h4, h5, h6, h7, h8, h9, h10, h11, h12, h13, h14, ⟨Y, hY1, hY2, hY3⟩, h16⟩ ht
    obtain ⟨t0, t1⟩ := tr t h1
    obtain ⟨y0, y1⟩ := tr Y (by omega)
    have hM0 : 0 ≤ ((Y : Nat) : Rat) + ((t : Nat) : Rat) / 68719476736 := by grind
    have hM : ((Y : Nat) : Rat) + ((t : Nat) : Rat) / 68719476736 ≤ 199 := by grind
    obtain ⟨m1, m2, m3, m4, m5⟩ := movF_of h2 h3 (by omega) (by omega) h7 h12 h13 (lC t (by omega)) (l1 t) h14 hM0 hM hY3 (Lm_big (by omega))
    have hb1 := (to_HB h7 h3 (by omega) h12).2.2
    refine ⟨m1, by omega, h2, h3, h4, h5, h6, h7, h8, h9, h10, h11, by rw [show 7 + (t + 1) = 7 + t + 1 by omega]; exact hb1, m2, by rw [Lm_s]; exact m3, ⟨Y, by omega, hY2, fun j hj => ?_⟩, rvle (h12.2 0 h2) (hb1.2 0 h2) m5 h16⟩
    have := m4 j hj
    rw [cast_s]
    clear hY3 h14 m3 m4 tr lmw l1 lC
    grind
  · intro t n F yg wm df q wd zs h dk ⟨h1, h2, h3, h4, h5, h6, h7, h8, h9, h10, h11, h12, h13, h14, ⟨Y, hY1, hY2, hY3⟩, h16⟩ ht
    obtain ⟨t0, t1⟩ := tr t h1
    obtain ⟨y0, y1⟩ := tr Y (by omega)
    have hM0 : 0 ≤ ((Y : Nat) : Rat) + ((t : Nat) : Rat) / 68719476736 := by grind
    have hM : ((Y : Nat) : Rat) + ((t : Nat) : Rat) / 68719476736 ≤ 190 := by grind
    have hMY : ((Y : Nat) : Rat) + ((t : Nat) : Rat) / 68719476736 ≤ ((Y : Nat) : Rat) + 1 / 134217728 := by grind
    obtain ⟨m1, m2, m3, m4, m5⟩ := ageF_of (zs := zs) (wd := wd) h2 h3 (by omega) (by omega) h8 h12 h13 (lC t (by omega)) (Lm_big (by omega)) (l1 t) h14 hM0 hM hY3 (by omega) hY2 hMY
    have hb1 := (year_all (wd := wd) h3 h12 h8 (by omega) (by omega)).2.2.2
    refine ⟨m1, by omega, h2, h3, h4, h5, h6, h7, h8, quv_QB hb1, h10, h11, by rw [show 7 + (t + 1) = 7 + t + 1 by omega]; exact hb1, m2, by rw [Lm_s]; exact m3, ⟨Y + 1, by omega, by rw [hY2]; exact nI_1 Y, fun j hj => ?_⟩, rvle (h12.2 0 h2) (hb1.2 0 h2) m5 h16⟩
    have := m4 j hj
    rw [cast_s, cast_s]
    clear hY3 h14 m3 m4 tr lmw l1 lC
    grind
  · intro t n F yg wm df q wd zs h dk ⟨h1, h2, h3, h4, h5, h6, h7, h8, h9, h10, h11, h12, h13, h14, ⟨Y, hY1, hY2, hY3⟩, h16⟩ ht w hw1 hw2
    obtain ⟨t0, t1⟩ := tr t h1
    obtain ⟨y0, y1⟩ := tr Y (by omega)
    have hM0 : 0 ≤ ((Y : Nat) : Rat) + ((t : Nat) : Rat) / 68719476736 := by grind
    obtain ⟨m1, m2, m3, m4, m5⟩ := botF_of (df := df) (dk := dk) h3 h12 h9 h13 (Lm_small t) h14 hM0 hY3 hw1 hw2 h2
    obtain ⟨hb1, hq1⟩ := dr_HB (df := df) h3 h12 h9 (badR_n (lo := 1) (hi := 1000) hw1 (show w ≤ 1000 by omega) (by decide))
    refine ⟨m1, by omega, h2, h3, h4, h5, h6, h7, h8, hq1, h10, h11, hb1.mono (by omega), m2, fun j hj => (m3 j hj).imp id (fun h => Rat.le_trans (lmw t) h), ⟨Y, by omega, hY2, fun j hj => ?_⟩, rvle (h12.2 0 h2) (hb1.2 0 h2) m5 h16⟩
    have := m4 j hj
    rw [cast_s]
    clear hY3 h14 m3 m4 tr lmw l1 lC
    grind
  · intro t n F yg wm df q wd zs h dk ⟨h1, h2, h3, h4, h5, h6, h7, h8, h9⟩ w hw
    exact ⟨h1, h2, h3, h4, h5, h6, h7, ⟨w, hw, rfl⟩, h9⟩
  · intro t n F yg wm df q wd zs h dk ⟨h1, h2, h3, h4, h5, h6, h7, h8, h9, h10, h11, h12, h13, h14, ⟨Y, hY1, hY2, hY3⟩, h16⟩ ht j hj
    obtain ⟨t0, t1⟩ := tr t h1
    obtain ⟨y0, y1⟩ := tr Y (by omega)
    have hM0 : 0 ≤ ((Y : Nat) : Rat) + ((t : Nat) : Rat) / 68719476736 := by grind
    obtain ⟨m2, m3, m4⟩ := clr_r (m := 0) h3 hj h13 h14 hM0 hY3
    have hb1 := clr_HB h3 h12 hj
    have m5 : (hset h j 0 0 0 0 0).toNat ≤ (h 0).toNat := by
      by_cases c : 0 = j
      · subst c
        rw [hset_b.1]
        exact Nat.zero_le _
      · rw [hset_ne (by omega) (by omega) c]
        exact Nat.le_refl _
    refine ⟨pouF_of h3 h12 hj, ?_⟩
    rw [hset_twice]
    refine ⟨by omega, h2, h3, h4, h5, h6, h7, h8, h9, h10, h11, hb1.mono (by omega), m2, fun i hi => (m3 i hi).imp id (fun h => Rat.le_trans (lmw t) h), ⟨Y, by omega, hY2, fun i hi => ?_⟩, rvle (h12.2 0 h2) (hb1.2 0 h2) m5 h16⟩
    have := m4 i hi
    rw [cast_s]
    clear hY3 h14 m3 m4 tr lmw l1 lC
    grind
  · intro t n F yg wm df q wd zs h dk ⟨h1, h2, h3, h4, h5, h6, h7, h8, h9, h10, h11, h12, h13, h14, ⟨Y, hY1, hY2, hY3⟩, h16⟩
    obtain ⟨t0, t1⟩ := tr t h1
    obtain ⟨y0, y1⟩ := tr Y (by omega)
    have hM0 : 0 ≤ ((Y : Nat) : Rat) + ((t : Nat) : Rat) / 68719476736 := by grind
    have hM : ((Y : Nat) : Rat) + ((t : Nat) : Rat) / 68719476736 ≤ 199 := by grind
    exact askF_of h2 h3 (by omega) (by omega) h7 h8 h9 h10 h11 h12 (lC t (by omega)) h14 hM0 hM hY3
  · intro t n F yg wm df q wd zs h dk ⟨h1, h2, h3, h4, h5, h6, h7, h8, h9, h10, h11, h12, h13, h14, ⟨Y, hY1, hY2, hY3⟩, h16⟩ ht
    refine ⟨by omega, h2, h3, h4, h5, h6, h7, h8, h9, h10, h11, h12.mono (by omega), h13, fun i hi => (h14 i hi).imp id (fun h => Rat.le_trans (lmw t) h), ⟨Y, by omega, hY2, fun i hi => ?_⟩, h16⟩
    have := hY3 i hi
    rw [cast_s]
    clear hY3 h14 tr lmw l1 lC
    grind
