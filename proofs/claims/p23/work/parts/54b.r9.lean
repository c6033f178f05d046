/-! REAL VALUES 10: a year in all barrels -/
def gtz (x : UInt64) : Prop := FP.dcmp x 0 = some .gt
theorem yr_at {wd : Nat → Int32} {dr : UInt64} {g : Nat → UInt64} {k : Nat} :
    (gtz (g k) → yrH wd dr g k k = FP.dsub (g k) (losv (wd k) (g k) dr) ∧ yrH wd dr g k (8 + k) = FP.dadd (g (8 + k)) 4607182418800017408 ∧ yrH wd dr g k (16 + k) = soA (g (16 + k)) (thick (g (24 + k)) (g k) (FP.dsub (g k) (losv (wd k) (g k) dr))) ∧ yrH wd dr g k (24 + k) = soS (g (16 + k)) (thick (g (24 + k)) (g k) (FP.dsub (g k) (losv (wd k) (g k) dr)))) ∧
    (¬ gtz (g k) → yrH wd dr g k = g) := by
  constructor
  · intro hg
    have e : yrH wd dr g k = _ := if_pos hg
    rw [e]
    exact hset_b
  · intro hg
    exact if_neg hg
theorem yr_ne {wd : Nat → Int32} {dr : UInt64} {g : Nat → UInt64} {k j : Nat} (hk : k < 8) (hj : j < 8) (h : j ≠ k) : yrH wd dr g k j = g j ∧ yrH wd dr g k (8 + j) = g (8 + j) ∧ yrH wd dr g k (16 + j) = g (16 + j) ∧ yrH wd dr g k (24 + j) = g (24 + j) := by
  unfold yrH
  split
  · exact ⟨hset_ne hk hj h, hset_ne1 hk hj h (Or.inl rfl), hset_ne1 hk hj h (Or.inr (Or.inl rfl)), hset_ne1 hk hj h (Or.inr (Or.inr rfl))⟩
  · exact ⟨rfl, rfl, rfl, rfl⟩
/-- barrel j after the first k years' steps -/
theorem ag_at {wd : Nat → Int32} {dr : UInt64} {h : Nat → UInt64} : ∀ k, k ≤ 8 → ∀ j, j < 8 →
    (k ≤ j → agH wd dr h k j = h j ∧ agH wd dr h k (8 + j) = h (8 + j) ∧ agH wd dr h k (16 + j) = h (16 + j) ∧ agH wd dr h k (24 + j) = h (24 + j)) ∧
    (j < k → (gtz (h j) → agH wd dr h k j = FP.dsub (h j) (losv (wd j) (h j) dr) ∧ agH wd dr h k (8 + j) = FP.dadd (h (8 + j)) 4607182418800017408 ∧ agH wd dr h k (16 + j) = soA (h (16 + j)) (thick (h (24 + j)) (h j) (FP.dsub (h j) (losv (wd j) (h j) dr))) ∧ agH wd dr h k (24 + j) = soS (h (16 + j)) (thick (h (24 + j)) (h j) (FP.dsub (h j) (losv (wd j) (h j) dr)))) ∧
      (¬ gtz (h j) → agH wd dr h k j = h j ∧ agH wd dr h k (8 + j) = h (8 + j) ∧ agH wd dr h k (16 + j) = h (16 + j) ∧ agH wd dr h k (24 + j) = h (24 + j))) := by
  intro k
  induction k with
  | zero => exact fun _ j _ => ⟨fun _ => ⟨rfl, rfl, rfl, rfl⟩, fun h => absurd h (Nat.not_lt_zero j)⟩
  | succ k ih =>
    intro hk j hj
    show (k + 1 ≤ j → yrH wd dr (agH wd dr h k) k j = _ ∧ yrH wd dr (agH wd dr h k) k (8 + j) = _ ∧ yrH wd dr (agH wd dr h k) k (16 + j) = _ ∧ yrH wd dr (agH wd dr h k) k (24 + j) = _) ∧ (j < k + 1 → (gtz (h j) → yrH wd dr (agH wd dr h k) k j = _ ∧ yrH wd dr (agH wd dr h k) k (8 + j) = _ ∧ yrH wd dr (agH wd dr h k) k (16 + j) = _ ∧ yrH wd dr (agH wd dr h k) k (24 + j) = _) ∧ (¬ gtz (h j) → yrH wd dr (agH wd dr h k) k j = _ ∧ yrH wd dr (agH wd dr h k) k (8 + j) = _ ∧ yrH wd dr (agH wd dr h k) k (16 + j) = _ ∧ yrH wd dr (agH wd dr h k) k (24 + j) = _))
    by_cases c : j = k
    · subst c
      obtain ⟨e0, e1, e2, e3⟩ := (ih (by omega) j hj).1 (Nat.le_refl j)
      refine ⟨fun h9 => absurd h9 (by omega), fun _ => ⟨fun hg => ?_, fun hg => ?_⟩⟩
      · obtain ⟨q0, q1, q2, q3⟩ := (yr_at (wd := wd) (dr := dr) (g := agH wd dr h j) (k := j)).1 (by rw [e0]; exact hg)
        rw [q0, q1, q2, q3, e0, e1, e2, e3]
        exact ⟨rfl, rfl, rfl, rfl⟩
      · rw [(yr_at (wd := wd) (dr := dr) (g := agH wd dr h j) (k := j)).2 (by rw [e0]; exact hg)]
        exact ⟨e0, e1, e2, e3⟩
    · obtain ⟨q0, q1, q2, q3⟩ := yr_ne (wd := wd) (dr := dr) (g := agH wd dr h k) (k := k) (j := j) (by omega) hj c
      rw [q0, q1, q2, q3]
      exact ⟨fun h9 => (ih (by omega) j hj).1 (by omega), fun h9 => (ih (by omega) j hj).2 (by omega)⟩
theorem gtz_pos {x : UInt64} (h : NN x) : gtz x ↔ 0 < x.toNat := ge_0 h
section YR
variable {m n : Nat} {wd : Nat → Int32} {wm : Int32} {h : Nat → UInt64} {lam M : Rat}
/-- one barrel's litres behind a year -/
theorem yr_l (hn : n ≤ 8) (hb : HB m n h) (hw : WB wm) (hC : 2 * rv cL ≤ lam) (hW : ∀ j, j < n → (h j).toNat = 0 ∨ lam ≤ rv (h j)) {j : Nat} (hj : j < n) (hg : gtz (h j)) :
    agH wd (drv wm) h n j = FP.dsub (h j) (losv (wd j) (h j) (drv wm)) ∧ NF (FP.dsub (h j) (losv (wd j) (h j) (drv wm))) ∧ 0 < (FP.dsub (h j) (losv (wd j) (h j) (drv wm))).toNat ∧ (FP.dsub (h j) (losv (wd j) (h j) (drv wm))).toNat ≤ (h j).toNat ∧ lam ≤ rv (h j) ∧
    (rv (FP.dsub (h j) (losv (wd j) (h j) (drv wm))) ≤ (rv (h j) - rv (losv (wd j) (h j) (drv wm))) + (rv (h j) - rv (losv (wd j) (h j) (drv wm))) / 4503599627370496 ∧ (rv (h j) - rv (losv (wd j) (h j) (drv wm))) - (rv (h j) - rv (losv (wd j) (h j) (drv wm))) / 4503599627370496 ≤ rv (FP.dsub (h j) (losv (wd j) (h j) (drv wm)))) ∧
    BD 1085 (losv (wd j) (h j) (drv wm)) ∧ rv (losv (wd j) (h j) (drv wm)) * 1024 ≤ 77 * rv (h j) ∧ 2 * rv (h j) ≤ rv (losv (wd j) (h j) (drv wm)) * 1024 := by
  have hl := (hb.2 j hj).1
  have h0 := (gtz_pos hl.nf.nn).mp hg
  have hlam := (hW j hj).resolve_left (by omega)
  obtain ⟨d0, d1, d2⟩ := dr_r hw
  obtain ⟨l0, l1, l2⟩ := lost_r (w := wd j) hl d0 d1 d2 (lam_eta hC) hlam
  have dr4 := (dr_ok hw).2
  obtain ⟨k1, k2, k3⟩ := lost_ok (w := wd j) hl.nf h0 dr4
  obtain ⟨p1, p2, p3⟩ := dsub_pos hl.nf k2 k3
  have s := sub_err hl.nf k2 (Nat.le_of_lt k3) (bd_r hl.bd (by decide))
  exact ⟨(((ag_at (wd := wd) (dr := drv wm) (h := h) n hn j (by omega)).2 hj).1 hg).1, p1, p2, p3, hlam, s.2, l0, l1, l2⟩
theorem ag_sum (hn : n ≤ 8) (hb : HB m n h) (hw : WB wm) (hC : 2 * rv cL ≤ lam) (hW : ∀ j, j < n → (h j).toNat = 0 ∨ lam ≤ rv (h j)) : ∀ k, k ≤ n →
    BD (1085 + k) (agS wd (drv wm) h k) ∧ rv (agS wd (drv wm) h k) ≤ 16 * ((k : Nat) : Rat) ∧
    (rv (agS wd (drv wm) h k) + SL (agH wd (drv wm) h n) k ≤ SL h k + 400 * ((k : Nat) : Rat) / 4503599627370496 ∧ SL h k - 400 * ((k : Nat) : Rat) / 4503599627370496 ≤ rv (agS wd (drv wm) h k) + SL (agH wd (drv wm) h n) k) ∧
    (∀ i, i < k → gtz (h i) → rv (losv (wd i) (h i) (drv wm)) ≤ rv (agS wd (drv wm) h k)) ∧ ((∀ i, i < k → ¬ gtz (h i)) → agS wd (drv wm) h k = 0) := by
  intro k
  induction k with
  | zero =>
    intro _
    have h0 : ((0 : Nat) : Rat) = 0 := rfl
    rw [h0]
    show BD 1085 0 ∧ rv 0 ≤ 16 * 0 ∧ (rv 0 + 0 ≤ 0 + _ ∧ _ ≤ rv 0 + 0) ∧ _ ∧ (_ → (0 : UInt64) = 0)
    rw [rv_zero]
    exact ⟨bd_0 _, by grind, ⟨by grind, by show 0 - 400 * 0 / 4503599627370496 ≤ (0 : Rat) + 0; grind⟩, fun i hi => absurd hi (Nat.not_lt_zero i), fun _ => rfl⟩
  | succ k ih =>
    intro hk
    obtain ⟨i1, i2, i3, i4, i5⟩ := ih (by omega)
    have hk1 : ((k + 1 : Nat) : Rat) = ((k : Nat) : Rat) + 1 := by
      rw [Rat.natCast_add]; rfl
    have hkr := kr_le (k := k) (by omega)
    obtain ⟨e0, -⟩ := (ag_at (wd := wd) (dr := drv wm) (h := h) k (by omega) k (by omega)).1 (Nat.le_refl k)
    rw [hk1]
    show BD (1085 + (k + 1)) (yrS wd (drv wm) (agH wd (drv wm) h k) k (agS wd (drv wm) h k)) ∧ rv (yrS wd (drv wm) (agH wd (drv wm) h k) k (agS wd (drv wm) h k)) ≤ _ ∧ (rv (yrS wd (drv wm) (agH wd (drv wm) h k) k (agS wd (drv wm) h k)) + (SL (agH wd (drv wm) h n) k + rv (agH wd (drv wm) h n k)) ≤ SL h k + rv (h k) + _ ∧ SL h k + rv (h k) - _ ≤ rv (yrS wd (drv wm) (agH wd (drv wm) h k) k (agS wd (drv wm) h k)) + (SL (agH wd (drv wm) h n) k + rv (agH wd (drv wm) h n k))) ∧ (∀ i, i < k + 1 → gtz (h i) → _ ≤ rv (yrS wd (drv wm) (agH wd (drv wm) h k) k (agS wd (drv wm) h k))) ∧ (_ → yrS wd (drv wm) (agH wd (drv wm) h k) k (agS wd (drv wm) h k) = 0)
    have hl := (hb.2 k (by omega)).1
    have lr := hl.r
    have a0 := rv_0 i1.1.nn
    by_cases hg : gtz (h k)
    · have eS : yrS wd (drv wm) (agH wd (drv wm) h k) k (agS wd (drv wm) h k) = FP.dadd (agS wd (drv wm) h k) (losv (wd k) (h k) (drv wm)) := by
        unfold yrS
        rw [e0]
        exact if_pos hg
      rw [eS]
      obtain ⟨q0, q1, q2, q3, q4, q5, q6, q7, q8⟩ := yr_l (wd := wd) hn hb hw hC hW (j := k) (by omega) hg
      have b := bd_add i1 (q6.mono (show 1085 ≤ 1085 + k by omega)) (by omega)
      have e := add_err i1.1 q6.1 (bd_r b (by omega))
      rw [q0]
      have g1 := (rv_leN q6.1.nn b.1.nn).mpr (dadd_geR i1.1 q6.1)
      have g2 := (rv_leN i1.1.nn b.1.nn).mpr (dadd_geL i1.1 q6.1)
      have l0 := rv_0 q6.1.nn
      refine ⟨b, ?_, ?_, fun i hi gi => ?_, fun h9 => absurd hg (h9 k (by omega))⟩
      · clear i3 i4 i5 hW g1 g2 q5
        grind
      · clear i4 i5 hW g1 g2
        generalize rv (FP.dadd (agS wd (drv wm) h k) (losv (wd k) (h k) (drv wm))) = r1 at *
        generalize rv (agS wd (drv wm) h k) = r0 at *
        generalize rv (FP.dsub (h k) (losv (wd k) (h k) (drv wm))) = l1 at *
        generalize rv (losv (wd k) (h k) (drv wm)) = lo at *
        generalize rv (h k) = l at *
        generalize SL (agH wd (drv wm) h n) k = S1 at *
        generalize SL h k = S0 at *
        generalize ((k : Nat) : Rat) = K at *
        constructor <;> grind
      · by_cases c : i = k
        · subst c; exact g1
        · exact Rat.le_trans (i4 i (by omega) gi) g2
    · have eS : yrS wd (drv wm) (agH wd (drv wm) h k) k (agS wd (drv wm) h k) = agS wd (drv wm) h k := by
        unfold yrS
        rw [e0]
        exact if_neg hg
      rw [eS]
      have e1 := (((ag_at (wd := wd) (dr := drv wm) (h := h) n hn k (by omega)).2 (by omega)).2 hg).1
      rw [e1]
      refine ⟨i1.mono (by omega), by grind, ?_, fun i hi gi => ?_, fun h9 => i5 (fun i hi => h9 i (by omega))⟩
      · constructor <;> grind
      · by_cases c : i = k
        · subst c; exact absurd gi hg
        · exact i4 i (by omega) gi
theorem PL_le {f : Nat} (hb : HB m n h) (hA : ∀ j, j < n → rv (h (f + j)) ≤ M) : ∀ k, k ≤ n → PL f h k ≤ M * SL h k := by
  intro k
  induction k with
  | zero =>
    intro _
    show (0 : Rat) ≤ M * 0
    grind
  | succ k ih =>
    intro hk
    have h1 := ih (by omega)
    have h2 := Rat.mul_le_mul_of_nonneg_left (hA k (by omega)) (hb.2 k (by omega)).1.r.1
    show PL f h k + rv (h k) * rv (h (f + k)) ≤ M * (SL h k + rv (h k))
    grind
/-- a mean is no more than the greatest -/
theorem mean_le (hm : m ≤ 400) (hn : n ≤ 8) (hb : HB m n h) (hC : 2 * rv cL ≤ lam) (hW : ∀ j, j < n → (h j).toNat = 0 ∨ lam ≤ rv (h j)) (hM0 : 0 ≤ M) (hM : M ≤ 200) (hA : ∀ j, j < n → rv (h (8 + j)) ≤ M) : rv (mnv 8 h n) ≤ M + 1 / 17179869184 := by
  have hf : (8 : Nat) = 8 ∨ (8 : Nat) = 16 ∨ (8 : Nat) = 24 := Or.inl rfl
  have b0 := mean_bd (f := 8) (by omega) hn hb hf hW hC
  by_cases g : FP.dcmp (suL h n) 0 = some .gt
  · obtain ⟨z0, z1, z2⟩ := mean_r (Or.inl rfl) (by omega) hn hb (hb.f hf) g (bd_r b0 (by omega))
    have h1 := PL_le hb hA n (Nat.le_refl n)
    have h2 := SL_lam hb hW ((suL_gt hn hb).mp g)
    have h3 := lam_eta hC
    have et := eta_pos
    have cl0 : 0 < rv cL := (rv_pos nf_cL.nn).mpr (by decide)
    have hT : 0 < SL h n := by grind
    have h4 := Rat.mul_le_mul_of_nonneg_right hM (Rat.le_of_lt hT)
    have h5 := (PL_two (f := 8) hb (fun i hi => (hb.f hf i hi).1.nn)).1
    refine Rat.le_of_mul_le_mul_right (c := SL h n) ?_ hT
    have m1 : (M + 1 / 17179869184) * SL h n = M * SL h n + SL h n / 17179869184 := by grind
    rw [m1]
    generalize rv (mnv 8 h n) * SL h n = ZT at *
    generalize M * SL h n = MT at *
    generalize SL h n = T at *
    generalize PL 8 h n = P at *
    generalize eta = t at *
    clear hA hW z0 z2 b0
    grind
  · rw [mnv_0 g, rv_zero]
    grind
end YR
