/-! topping up keeps the bounds -/
theorem ud_half : ud 4602678819172646912 = 2 ^ 1073 := by decide +kernel
theorem nf_half : NF 4602678819172646912 := by unfold NF; decide +kernel
theorem half_le {l : UInt64} (hl : NF l) : (FP.dmul 4602678819172646912 l).toNat ≤ l.toNat := dmul_le nf_half hl hl.nn (by
  rw [ud_half, Nat.mul_comm]
  exact Nat.mul_le_mul_left _ (Nat.pow_le_pow_right (by decide) (by decide)))
theorem half_lt {l : UInt64} (hl : NF l) (h0 : 0 < (FP.dmul 4602678819172646912 l).toNat) : (FP.dmul 4602678819172646912 l).toNat < l.toNat := by
  obtain ⟨c, k, hc, hk, hu, hck⟩ := ud_form hl
  by_cases c2 : 2 ≤ c
  · obtain ⟨V, f, u⟩ := mk_units (c - 1) k (by omega) hk
    refine Nat.lt_of_le_of_lt (dmul_le nf_half hl f.nn ?_) (ud_lt.mp (?_ : ud V < ud l))
    · rw [ud_half, hu, u, show 2 ^ 1073 * (c * 2 ^ k) = c * (2 ^ k * 2 ^ 1073) by rw [← Nat.mul_assoc, Nat.mul_comm (2 ^ 1073) c, Nat.mul_assoc, Nat.mul_comm (2 ^ 1073)], show (c - 1) * 2 ^ k * 2 ^ 1074 = 2 * (c - 1) * (2 ^ k * 2 ^ 1073) by rw [show (2 : Nat) ^ 1074 = 2 * 2 ^ 1073 by rw [← Nat.pow_succ'], Nat.mul_assoc, Nat.mul_assoc, Nat.mul_left_comm (2 ^ k), Nat.mul_left_comm (c - 1)]]
      exact Nat.mul_le_mul_right _ (by omega)
    · rw [u, hu]
      exact Nat.mul_lt_mul_of_pos_right (by omega) (Nat.two_pow_pos k)
  · have hc01 : c = 0 ∨ c = 1 := by omega
    rcases hc01 with rfl | rfl
    · rw [Nat.zero_mul] at hu
      have : ¬ 0 < l.toNat := fun h => by have := ud_pos.mpr h; omega
      have := half_le hl
      omega
    · have hk0 : k = 0 := by
        rcases hck with h | h
        · exact h
        · exact absurd h (by decide)
      subst hk0
      rw [Nat.pow_zero, Nat.mul_one] at hu
      have e1 : l = 1 := by
        refine UInt64.toNat_inj.mp ?_
        have a1 : l.toNat ≤ (1 : UInt64).toNat := ud_le.mp (by rw [hu, ud_1]; exact Nat.le_refl 1)
        have a2 : (1 : UInt64).toNat ≤ l.toNat := ud_le.mp (by rw [hu, ud_1]; exact Nat.le_refl 1)
        omega
      subst e1
      exact absurd h0 (by decide +kernel)
theorem goe_ok {z : Int32} (hz : ZB z) {l1 l2 : UInt64} (h1 : LB l1) (h2 : LB l2) : vf_n64 (full z) ∧ vf_n64 (FP.dsub (full z) l2) ∧ vf_n64 (FP.dmul 4602678819172646912 l1) ∧ FP.dcmp (FP.dsub (full z) l2) (FP.dmul 4602678819172646912 l1) ≠ none ∧ FP.dcmp (goev z l2 l1) 0 ≠ none ∧ (FP.dcmp (goev z l2 l1) 0 = some .gt → 0 < (goev z l2 l1).toNat ∧ (goev z l2 l1).toNat ≤ 4636737291354636288 ∧ l2.toNat ≤ 4636737291354636288 ∧ (goev z l2 l1).toNat < l1.toNat) ∧ (FP.dcmp l2 (full z) ≠ some .lt → FP.dcmp (goev z l2 l1) 0 ≠ some .gt) := by
  obtain ⟨k, hk1, hk2, rfl⟩ := hz
  have hf := (sz_d hk2).2
  have hne := dsub_ne (nf_100 hf).fin h2.nf.fin
  have hh := half_le h1.nf
  have nh : NF (FP.dmul 4602678819172646912 l1) := nf_le h1.nf hh
  have key : FP.dcmp (goev (nI k) l2 l1) 0 = some .gt → 0 < (goev (nI k) l2 l1).toNat ∧ (goev (nI k) l2 l1).toNat ≤ 4636737291354636288 ∧ l2.toNat < (full (nI k)).toNat ∧ (goev (nI k) l2 l1).toNat < l1.toNat := by
    intro hg
    show 0 < (lesv (FP.dsub (full (nI k)) l2) (FP.dmul 4602678819172646912 l1)).toNat ∧ (lesv (FP.dsub (full (nI k)) l2) (FP.dmul 4602678819172646912 l1)).toNat ≤ _ ∧ _ ∧ (lesv (FP.dsub (full (nI k)) l2) (FP.dmul 4602678819172646912 l1)).toNat < _
    replace hg : FP.dcmp (lesv (FP.dsub (full (nI k)) l2) (FP.dmul 4602678819172646912 l1)) 0 = some .gt := hg
    unfold lesv at hg ⊢
    by_cases hc : FP.dcmp (FP.dsub (full (nI k)) l2) (FP.dmul 4602678819172646912 l1) = some .lt
    · rw [if_pos hc] at hg ⊢
      obtain ⟨g1, g2, g3, g4⟩ := sub_gt (nf_100 hf) h2.nf hg
      have g5 := ((cmp_nn g1.nn nh.nn).1).mp hc
      have g6 := half_lt h1.nf (by omega)
      exact ⟨g2, by omega, g4, by omega⟩
    · rw [if_neg hc] at hg ⊢
      have g0 := (ge_0 nh.nn).mp hg
      have hr : FP.dcmp (FP.dsub (full (nI k)) l2) 0 = some .gt := by
        rw [cmp_zv hne nh.nn.ne] at hc
        have a1 : ¬ zv (FP.dsub (full (nI k)) l2) < zv (FP.dmul 4602678819172646912 l1) := fun h => hc (congrArg some (Int.compare_eq_lt.mpr h))
        rw [nh.nn.uz] at a1
        have a2 := ud_pos.mpr g0
        rw [cmp_zv hne ne_0, zv_0]
        exact congrArg some (Int.compare_eq_gt.mpr (by omega))
      obtain ⟨g1, g2, g3, g4⟩ := sub_gt (nf_100 hf) h2.nf hr
      have g5 : ¬ (FP.dsub (full (nI k)) l2).toNat < (FP.dmul 4602678819172646912 l1).toNat := fun h => hc (((cmp_nn g1.nn nh.nn).1).mpr h)
      have g6 := half_lt h1.nf g0
      exact ⟨g0, by omega, g4, g6⟩
  refine ⟨(nf_100 hf).nn.n64, n64_of hne, nh.nn.n64, cmp_ne hne nh.nn.ne, ?_, fun hg => ?_, fun hc hg => ?_⟩
  · show FP.dcmp (lesv (FP.dsub (full (nI k)) l2) (FP.dmul 4602678819172646912 l1)) 0 ≠ none
    rcases lesv_or (FP.dsub (full (nI k)) l2) (FP.dmul 4602678819172646912 l1) with e | e
    · rw [e]; exact cmp_ne hne ne_0
    · rw [e]; exact cmp_ne nh.nn.ne ne_0
  · obtain ⟨g1, g2, g3, g4⟩ := key hg
    exact ⟨g1, g2, by omega, g4⟩
  · obtain ⟨g1, g2, g3, g4⟩ := key hg
    exact hc (((cmp_nn h2.nf.nn (nf_100 hf).nn).1).mpr g3)
theorem pa_ok {m : Nat} {zs : Nat → Int32} {h : Nat → UInt64} {k : Nat} (hz : ZB (zs (k + 1))) (h1 : BB m h k) (h2 : BB m h (k + 1)) (hm : m ≤ 800) : paok (zs (k + 1)) (h k) (h (8 + k)) (h (16 + k)) (h (24 + k)) (h (k + 1)) (h (8 + (k + 1))) (h (16 + (k + 1))) (h (24 + (k + 1))) := by
  obtain ⟨a1, a2, a3, a4, a5, a6, -⟩ := goe_ok hz h1.1 h2.1
  refine ⟨a1, a2, a3, a4, a5, fun hg => ?_⟩
  obtain ⟨g1, g2, g3, g4⟩ := a6 hg
  obtain ⟨b1, b2, b3⟩ := dsub_pos h1.1.nf (nf_100 g2) g4
  exact ⟨(mix_ok h2.1 (lb_100 g2) g1 h2.2.1 h1.2.1 hm).1, (mix_ok h2.1 (lb_100 g2) g1 h2.2.2.1 h1.2.2.1 hm).1, (mix_ok h2.1 (lb_100 g2) g1 h2.2.2.2 h1.2.2.2 hm).1, b1.nn.n64, (ge_0 b1.nn).mpr b2⟩
theorem pa_nn {m : Nat} {zs : Nat → Int32} {h : Nat → UInt64} {k : Nat} (hz : ZB (zs (k + 1))) (h1 : BB m h k) (h2 : BB m h (k + 1)) {sum : UInt64} (hs : NN sum) : (FP.dcmp (paG zs h k) 0 = some .gt → vf_n64 (FP.dadd sum (paG zs h k))) ∧ NN (paS zs h k sum) := by
  obtain ⟨a1, a2, a3, a4, a5, a6, -⟩ := goe_ok hz h1.1 h2.1
  have key : FP.dcmp (paG zs h k) 0 = some .gt → NN (FP.dadd sum (paG zs h k)) := fun hg => nn_dadd hs (nf_100 (a6 hg).2.1).nn
  refine ⟨fun hg => (key hg).n64, ?_⟩
  unfold paS
  split
  · exact key (by assumption)
  · exact hs
theorem pa_BB {m n : Nat} {zs : Nat → Int32} {h : Nat → UInt64} {k : Nat} (hz : ZB (zs (k + 1))) (hk : k + 1 < n) (hn : n ≤ 8) (hm : m ≤ 800) (h0 : zerH n h) (h1 : ∀ j, j ≤ k + 1 → BB m h j) (h2 : ∀ j, j < n → BB (m + 1) h j) : zerH n (paH zs h k) ∧ (∀ j, j ≤ k → BB m (paH zs h k) j) ∧ ∀ j, j < n → BB (m + 1) (paH zs h k) j := by
  unfold paH
  split
  · rename_i hg
    obtain ⟨a1, a2, a3, a4, a5, a6, -⟩ := goe_ok hz (h1 k (by omega)).1 (h1 (k + 1) (by omega)).1
    obtain ⟨g1, g2, g3, g4⟩ := a6 hg
    have b1 := h1 k (by omega)
    have b2 := h1 (k + 1) (by omega)
    obtain ⟨c1, c2, c3⟩ := dsub_pos b1.1.nf (nf_100 g2) g4
    have hlb : LB (FP.dsub (h k) (paG zs h k)) := Nat.le_trans c3 b1.1
    refine ⟨zerH_set (zerH_set h0 hk hn) (by omega) hn, fun j hj => ?_, fun j hj => ?_⟩
    · by_cases e : j = k
      · subst e; exact BB_set hlb b1.2.1 b1.2.2.1 b1.2.2.2
      · exact (BB_ne (by omega) (by omega) e).mpr ((BB_ne (by omega) (by omega) (by omega)).mpr (h1 j (by omega)))
    · by_cases e : j = k
      · subst e; exact (BB_set hlb b1.2.1 b1.2.2.1 b1.2.2.2 : BB m _ _).mono (by omega)
      · refine (BB_ne (by omega) (by omega) e).mpr ?_
        by_cases e2 : j = k + 1
        · subst e2
          exact BB_set (add_200 g3 g2) (mix_ok b2.1 (lb_100 g2) g1 b2.2.1 b1.2.1 hm).2 (mix_ok b2.1 (lb_100 g2) g1 b2.2.2.1 b1.2.2.1 hm).2 (mix_ok b2.1 (lb_100 g2) g1 b2.2.2.2 b1.2.2.2 hm).2
        · exact (BB_ne (by omega) (by omega) e2).mpr (h2 j hj)
  · exact ⟨h0, fun j hj => h1 j (by omega), h2⟩
theorem to_ok {m n : Nat} {zs : Nat → Int32} (hz : ∀ i, i < n → ZB (zs i)) (hn : n ≤ 8) (hm : m ≤ 800) : ∀ (k : Nat) (h : Nat → UInt64) (sum : UInt64), (k = 0 ∨ k < n) → zerH n h → (∀ j, j ≤ k → j < n → BB m h j) → (∀ j, j < n → BB (m + 1) h j) → NN sum → took zs k h sum ∧ tukk zs k h ∧ zerH n (toH zs k h) ∧ ∀ j, j < n → BB (m + 1) (toH zs k h) j
  | 0, h, sum, _, h0, _, h2, _ => ⟨trivial, trivial, h0, h2⟩
  | k + 1, h, sum, hk, h0, h1, h2, hs => by
    have hk : k + 1 < n := hk.resolve_left (by omega)
    have h1' : ∀ j, j ≤ k + 1 → BB m h j := fun j hj => h1 j hj (by omega)
    have hzk := hz (k + 1) hk
    obtain ⟨b0, b1, b2⟩ := pa_BB hzk hk hn hm h0 h1' h2
    obtain ⟨s1, s2⟩ := pa_nn hzk (h1' k (by omega)) (h1' (k + 1) (by omega)) hs
    obtain ⟨c1, c2, c3, c4⟩ := to_ok hz hn hm k (paH zs h k) (paS zs h k sum) (Or.inr (by omega)) b0 (fun j hj _ => b1 j hj) b2 s2
    obtain ⟨a1, a2, a3, a4, a5, a6, a7⟩ := goe_ok hzk (h1' k (by omega)).1 (h1' (k + 1) (by omega)).1
    refine ⟨⟨⟨pa_ok hzk (h1' k (by omega)) (h1' (k + 1) (by omega)) hm, hs, s1⟩, c1⟩, ⟨⟨?_, a7⟩, c2⟩, c3, c4⟩
    obtain ⟨kk, -, hk2, e⟩ := hzk
    rw [e]
    exact cmp_ne (h1' (k + 1) (by omega)).1.nf.nn.ne (nf_100 (sz_d hk2).2).nn.ne
theorem to_HB {m n : Nat} {zs : Nat → Int32} {h : Nat → UInt64} (hz : ∀ i, i < n → ZB (zs i)) (hn : n ≤ 8) (hm : m ≤ 800) (hb : HB m n h) : took zs (n - 1) h 0 ∧ tukk zs (n - 1) h ∧ HB (m + 1) n (toH zs (n - 1) h) := by
  obtain ⟨a, b, c, d⟩ := to_ok hz hn hm (n - 1) h 0 (by omega) hb.1 (fun j _ hj => hb.2 j hj) (fun j hj => (hb.2 j hj).mono (by omega)) nn_0
  exact ⟨a, b, c, d⟩
