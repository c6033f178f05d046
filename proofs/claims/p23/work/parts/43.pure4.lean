/-! a year keeps the bounds -/
theorem dr_all : ∀ k : Fin 41, (FP.dmul 4587366580439587226 (FP.i2d (nI k.val - 18))).toNat % 2 ^ 63 < 9218868437227405312 ∧ (drw (nI k.val)).toNat ≤ 4616189618054758400 ∧ (drv (nI k.val)).toNat ≤ 4616189618054758400 := by decide +kernel
/-- a warmth -/
def WB (w : Int32) : Prop := ∃ k : Nat, k ≤ 40 ∧ w = nI k
theorem nf_0 : NF 0 := by unfold NF; decide +kernel
theorem nf_4 {x : UInt64} (h : x.toNat ≤ 4616189618054758400) : NF x := by unfold NF; omega
theorem dr_ok {wm : Int32} (hw : WB wm) : drok wm ∧ (drv wm).toNat ≤ 4616189618054758400 := by
  obtain ⟨k, hk, rfl⟩ := hw
  obtain ⟨h1, h2, h3⟩ := dr_all ⟨k, by omega⟩
  refine ⟨⟨n64_of ((FP.Core.ne_nan _).mpr (Nat.le_of_lt h1)), (nf_4 h2).nn.n64, cmp_ne (nf_4 h2).nn.ne (NN.ne (by unfold NN; decide +kernel))⟩, h3⟩
theorem shv_or (w : Int32) : shv w = 4581421828931458171 ∨ shv w = 4584304132692975288 ∨ shv w = 4585204852618449388 ∨ shv w = 4582862980812216730 := by
  unfold shv
  split
  · exact Or.inl rfl
  · split
    · exact Or.inr (Or.inl rfl)
    · split
      · exact Or.inr (Or.inr (Or.inl rfl))
      · exact Or.inr (Or.inr (Or.inr rfl))
theorem shv_nf (w : Int32) : NF (shv w) ∧ ud (shv w) ≤ 2 ^ 1070 := by
  rcases shv_or w with e | e | e | e <;> rw [e] <;> exact ⟨by unfold NF; decide +kernel, by decide +kernel⟩
theorem shv_small (w : Int32) : ∀ c : Fin 5, FP.dmul (UInt64.ofNat c.val) (shv w) = 0 := by
  rcases shv_or w with e | e | e | e <;> rw [e] <;> decide +kernel
theorem ud_small : ∀ c : Fin 5, ud (UInt64.ofNat c.val) = c.val := by decide +kernel
theorem ud_4 : ud 4616189618054758400 = 4 * 2 ^ 1074 := by decide +kernel
theorem lost_ok {w : Int32} {li dr : UInt64} (hl : NF li) (h0 : 0 < li.toNat) (hd : dr.toNat ≤ 4616189618054758400) : NF (FP.dmul li (shv w)) ∧ NF (losv w li dr) ∧ (losv w li dr).toNat < li.toNat := by
  obtain ⟨c, k, hc, hk, hu, hck⟩ := ud_form hl
  obtain ⟨s1, s2⟩ := shv_nf w
  have hdu : ud dr ≤ 4 * 2 ^ 1074 := by rw [← ud_4]; exact ud_le.mpr hd
  by_cases c5 : 5 ≤ c
  · obtain ⟨V1, f1, u1⟩ := mk_units (c / 16 + 1) k (by omega) hk
    obtain ⟨V2, f2, u2⟩ := mk_units (4 * (c / 16 + 1)) k (by omega) hk
    have p1 : (FP.dmul li (shv w)).toNat ≤ V1.toNat := dmul_le hl s1 f1.nn (by
      rw [hu, u1]
      calc c * 2 ^ k * ud (shv w) ≤ c * 2 ^ k * 2 ^ 1070 := Nat.mul_le_mul_left _ s2
        _ ≤ 16 * (c / 16 + 1) * 2 ^ k * 2 ^ 1070 := Nat.mul_le_mul_right _ (Nat.mul_le_mul_right _ (by omega))
        _ = (c / 16 + 1) * 2 ^ k * 2 ^ 1074 := by
          rw [show (2 : Nat) ^ 1074 = 16 * 2 ^ 1070 by rw [show (16 : Nat) = 2 ^ 4 from rfl, ← Nat.pow_add], Nat.mul_assoc 16, Nat.mul_left_comm 16, Nat.mul_assoc, Nat.mul_assoc, Nat.mul_assoc, Nat.mul_left_comm 16 (2 ^ k)])
    have n1 := nf_le f1 p1
    have q1 := ud_of_le p1
    rw [u1] at q1
    have p2 : (losv w li dr).toNat ≤ V2.toNat := dmul_le n1 (nf_4 hd) f2.nn (by
      rw [u2]
      calc ud (FP.dmul li (shv w)) * ud dr ≤ ((c / 16 + 1) * 2 ^ k) * (4 * 2 ^ 1074) := Nat.mul_le_mul q1 hdu
        _ = 4 * (c / 16 + 1) * 2 ^ k * 2 ^ 1074 := by rw [Nat.mul_left_comm, Nat.mul_assoc 4, Nat.mul_assoc 4])
    refine ⟨n1, nf_le f2 p2, Nat.lt_of_le_of_lt p2 (ud_lt.mp ?_)⟩
    rw [u2, hu]
    exact Nat.mul_lt_mul_of_pos_right (by omega) (Nat.two_pow_pos k)
  · have hu0 := ud_pos.mpr h0
    have hk0 : k = 0 := by
      rcases hck with h | h
      · exact h
      · exact absurd (Nat.le_trans h (show c ≤ 4 by omega)) (by decide)
    subst hk0
    rw [Nat.pow_zero, Nat.mul_one] at hu
    have hc5 : c < 5 := by omega
    have e1 : li = UInt64.ofNat c := by
      have e2 := ud_small ⟨c, hc5⟩
      refine UInt64.toNat_inj.mp ?_
      have a1 : li.toNat ≤ (UInt64.ofNat c).toNat := ud_le.mp (by rw [hu]; exact Nat.le_of_eq e2.symm)
      have a2 : (UInt64.ofNat c).toNat ≤ li.toNat := ud_le.mp (by rw [hu]; exact Nat.le_of_eq e2)
      omega
    have e3 : FP.dmul li (shv w) = 0 := by rw [e1]; exact shv_small w ⟨c, hc5⟩
    have e4 : (losv w li dr).toNat ≤ (0 : UInt64).toNat := by
      show (FP.dmul (FP.dmul li (shv w)) dr).toNat ≤ _
      rw [e3]
      exact dmul_le (v := 0) nf_0 (nf_4 hd) nn_0 (by rw [show ud 0 = 0 by decide +kernel, Nat.zero_mul]; exact Nat.zero_le _)
    have e5 : (0 : UInt64).toNat = 0 := by decide
    refine ⟨by rw [e3]; exact nf_0, nf_le (v := 0) nf_0 e4, by omega⟩
theorem nn_70 : NN 4634626229029306368 := by unfold NN; decide +kernel
theorem thick_le {su li be : UInt64} (h : NN (FP.ddiv (FP.dmul su li) be)) : (thick su li be).toNat ≤ 4634626229029306368 := by
  unfold thick
  split
  · exact Nat.le_refl _
  · rename_i hg
    exact Nat.not_lt.mp fun h2 => hg ((cmp_nn h nn_70).2.2.mpr h2)
theorem nf_70 {x : UInt64} (h : x.toNat ≤ 4634626229029306368) : NF x := by unfold NF; omega
theorem ud_70 {x : UInt64} (h : x.toNat ≤ 4634626229029306368) : ud x ≤ 2 ^ (1074 + 7) := Nat.le_trans (ud_of_le (v := 4634626229029306368) h) (by decide +kernel)
theorem vB_add {m : Nat} {a c : UInt64} (ha : VB m a) (hc : NF c) (hu : ud c ≤ 2 ^ 1074) (hm : m ≤ 900) : VB (m + 1) (FP.dadd a c) := by
  obtain ⟨V, f, u⟩ := mk_units 1 (1074 + (m + 1)) (by decide) (by omega)
  have p : (FP.dadd a c).toNat ≤ V.toNat := dadd_le ha.1 hc f.nn (by
    rw [u, Nat.one_mul, show 1074 + (m + 1) = 1074 + m + 1 by omega, Nat.pow_succ]
    have h1 := ha.2
    have h2 : 2 ^ 1074 ≤ 2 ^ (1074 + m) := Nat.pow_le_pow_right (by decide) (by omega)
    omega)
  exact ⟨nf_le f p, by have := ud_of_le p; rw [u, Nat.one_mul] at this; exact this⟩
theorem year_ok {m : Nat} {w : Int32} {h : Nat → UInt64} {k : Nat} {dr : UInt64} (hb : BB m h k) (hg : FP.dcmp (h k) 0 = some .gt) (hd : dr.toNat ≤ 4616189618054758400) (hm : 7 ≤ m) (hm2 : m ≤ 800) : yearok w (h k) (h (8 + k)) (h (16 + k)) (h (24 + k)) dr ∧ yearNN w (h k) (h (16 + k)) (h (24 + k)) dr ∧ NN (losv w (h k) dr) ∧ LB (FP.dsub (h k) (losv w (h k) dr)) ∧ VB (m + 1) (FP.dadd (h (8 + k)) 4607182418800017408) ∧ VB (m + 1) (soA (h (16 + k)) (thick (h (24 + k)) (h k) (FP.dsub (h k) (losv w (h k) dr)))) ∧ VB (m + 1) (soS (h (16 + k)) (thick (h (24 + k)) (h k) (FP.dsub (h k) (losv w (h k) dr)))) := by
  obtain ⟨b1, b2, b3, b4⟩ := hb
  have h0 := (ge_0 b1.nf.nn).mp hg
  obtain ⟨l1, l2, l3⟩ := lost_ok (w := w) b1.nf h0 hd
  obtain ⟨d1, d2, d3⟩ := dsub_pos b1.nf l2 l3
  have p1 : NN (FP.dmul (h (24 + k)) (h k)) := nn_dmulF b4.1 b1.nf
  have p2 : NN (FP.ddiv (FP.dmul (h (24 + k)) (h k)) (FP.dsub (h k) (losv w (h k) dr))) := nn_ddiv p1 d1 d2
  have t1 := thick_le p2
  generalize hT : thick (h (24 + k)) (h k) (FP.dsub (h k) (losv w (h k) dr)) = T at t1
  have nT := nf_70 t1
  have c06 : NF 4603579539098121011 := by unfold NF; decide +kernel
  have c01 : NF 4591870180066957722 := by unfold NF; decide +kernel
  have c08 : NF 4605380978949069210 := by unfold NF; decide +kernel
  have c1 : NF 4607182418800017408 := by unfold NF; decide +kernel
  have a1 := vB_add b2 c1 (by decide +kernel) (by omega)
  have a2 := vB_add b3 c06 (by decide +kernel) (by omega)
  have a3 := vB_add b3 c01 (by decide +kernel) (by omega)
  have n12 : NN 4622945017495814144 := by unfold NN; decide +kernel
  have n20 : NN 4626322717216342016 := by unfold NN; decide +kernel
  have n8 : NN 4620693217682128896 := by unfold NN; decide +kernel
  refine ⟨⟨l1.nn.n64, l2.nn.n64, d1.nn.n64, (ge_0 d1.nn).mpr d2, p1.n64, p2.n64, cmp_ne p2.ne nn_70.ne, ?_, a1.1.nn.n64⟩, ⟨p2, a3.1.nn⟩, l2.nn, Nat.le_trans d3 b1, a1, ?_, ?_⟩
  · rw [hT]
    exact ⟨cmp_ne nT.nn.ne n20.ne, cmp_ne b3.1.nn.ne n8.ne, a2.1.nn.n64, n64_of (dsub_ne nT.fin c08.fin), a3.1.nn.n64, cmp_ne a3.1.nn.ne n12.ne⟩
  · unfold soA
    split
    · exact a2
    · split
      · exact vB_c (by unfold NF; decide +kernel) (by decide +kernel) (by omega)
      · exact a3
  · unfold soS
    split
    · rename_i hs
      have h20 := (cmp_nn nT.nn n20).2.2.mp hs.1
      obtain ⟨e1, e2, e3⟩ := dsub_pos nT c08 (Nat.lt_trans (by decide +kernel) h20)
      exact vB_c e1 (ud_70 (Nat.le_trans e3 t1)) (by omega)
    · exact vB_c nT (ud_70 t1) (by omega)
theorem ag_ok {m n : Nat} {wd : Nat → Int32} {h : Nat → UInt64} {dr : UInt64} (hn : n ≤ 8) (hb : HB m n h) (hd : dr.toNat ≤ 4616189618054758400) (hm : 7 ≤ m) (hm2 : m ≤ 800) : ∀ k, k ≤ n → zerH n (agH wd dr h k) ∧ (∀ j, j < n → BB (m + 1) (agH wd dr h k) j) ∧ (∀ j, k ≤ j → j < n → BB m (agH wd dr h k) j) ∧ NN (agS wd dr h k)
  | 0, _ => ⟨hb.1, fun j hj => (hb.2 j hj).mono (by omega), fun j _ hj => hb.2 j hj, nn_0⟩
  | k + 1, hk => by
    obtain ⟨i0, i1, i2, i3⟩ := ag_ok hn hb hd hm hm2 k (by omega)
    show zerH n (yrH wd dr (agH wd dr h k) k) ∧ (∀ j, j < n → BB (m + 1) (yrH wd dr (agH wd dr h k) k) j) ∧ (∀ j, k + 1 ≤ j → j < n → BB m (yrH wd dr (agH wd dr h k) k) j) ∧ NN (yrS wd dr (agH wd dr h k) k (agS wd dr h k))
    unfold yrH yrS
    split
    · rename_i hg
      obtain ⟨-, -, y3, y4, y5, y6, y7⟩ := year_ok (w := wd k) (i2 k (Nat.le_refl k) (by omega)) hg hd hm hm2
      refine ⟨zerH_set i0 (by omega) hn, fun j hj => ?_, fun j hj hj2 => ?_, nn_dadd i3 y3⟩
      · by_cases e : j = k
        · subst e; exact BB_set y4 y5 y6 y7
        · exact (BB_ne (by omega) (by omega) e).mpr (i1 j hj)
      · exact (BB_ne (by omega) (by omega) (by omega)).mpr (i2 j (by omega) hj2)
    · exact ⟨i0, i1, fun j hj hj2 => i2 j (by omega) hj2, i3⟩
theorem HB.nnr {m n : Nat} {h : Nat → UInt64} (hb : HB m n h) : NNr n h := fun i hi => ⟨(hb.2 i hi).1.nf.nn, (hb.2 i hi).2.1.1.nn⟩
theorem year_all {m n : Nat} {wd : Nat → Int32} {wm : Int32} {h : Nat → UInt64} (hn : n ≤ 8) (hb : HB m n h) (hw : WB wm) (hm : 7 ≤ m) (hm2 : m ≤ 800) : drok wm ∧ agok wd (drv wm) h n ∧ agNN wd (drv wm) h n ∧ HB (m + 1) n (agH wd (drv wm) h n) := by
  obtain ⟨d1, d2⟩ := dr_ok hw
  have key := ag_ok (wd := wd) hn hb d2 hm hm2
  refine ⟨d1, fun k hk => ?_, fun k hk hg => ?_, (key n (Nat.le_refl n)).1, (key n (Nat.le_refl n)).2.1⟩
  · obtain ⟨-, -, i2, i3⟩ := key k (by omega)
    have b := i2 k (Nat.le_refl k) hk
    refine ⟨cmp_ne b.1.nf.nn.ne ne_0, fun hg => ?_⟩
    obtain ⟨y1, -, y3, -⟩ := year_ok (w := wd k) b hg d2 hm hm2
    exact ⟨y1, (nn_dadd i3 y3).n64⟩
  · obtain ⟨-, -, i2, -⟩ := key k (by omega)
    exact (year_ok (w := wd k) (i2 k (Nat.le_refl k) hk) hg d2 hm hm2).2.1
