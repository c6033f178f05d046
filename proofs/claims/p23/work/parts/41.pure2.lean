/-! the barrels' bounds; must poured in -/
def BB (m : Nat) (h : Nat → UInt64) (i : Nat) : Prop := LB (h i) ∧ VB m (h (8 + i)) ∧ VB m (h (16 + i)) ∧ VB m (h (24 + i))
def HB (m n : Nat) (h : Nat → UInt64) : Prop := zerH n h ∧ ∀ i, i < n → BB m h i
/-- a size -/
def ZB (z : Int32) : Prop := ∃ k : Nat, 10 ≤ k ∧ k ≤ 100 ∧ z = nI k
theorem BB.mono {m k : Nat} {h : Nat → UInt64} {i : Nat} (hb : BB m h i) (hk : m ≤ k) : BB k h i := ⟨hb.1, hb.2.1.mono hk, hb.2.2.1.mono hk, hb.2.2.2.mono hk⟩
theorem HB.mono {m k n : Nat} {h : Nat → UInt64} (hb : HB m n h) (hk : m ≤ k) : HB k n h := ⟨hb.1, fun i hi => (hb.2 i hi).mono hk⟩
theorem hset_b {h : Nat → UInt64} {b : Nat} {li ag ac su : UInt64} : hset h b li ag ac su b = li ∧ hset h b li ag ac su (8 + b) = ag ∧ hset h b li ag ac su (16 + b) = ac ∧ hset h b li ag ac su (24 + b) = su := by
  unfold hset
  refine ⟨if_pos rfl, ?_, ?_, ?_⟩
  · rw [if_neg (by omega), if_pos rfl]
  · rw [if_neg (by omega), if_neg (by omega), if_pos rfl]
  · rw [if_neg (by omega), if_neg (by omega), if_neg (by omega), if_pos rfl]
theorem BB_set {m : Nat} {h : Nat → UInt64} {b : Nat} {li ag ac su : UInt64} (h1 : LB li) (h2 : VB m ag) (h3 : VB m ac) (h4 : VB m su) : BB m (hset h b li ag ac su) b := by
  obtain ⟨e1, e2, e3, e4⟩ := hset_b (h := h) (b := b) (li := li) (ag := ag) (ac := ac) (su := su)
  unfold BB
  rw [e1, e2, e3, e4]
  exact ⟨h1, h2, h3, h4⟩
theorem BB_ne {m : Nat} {h : Nat → UInt64} {b i : Nat} {li ag ac su : UInt64} (hb : b < 8) (hi : i < 8) (hn : i ≠ b) : BB m (hset h b li ag ac su) i ↔ BB m h i := by
  unfold BB
  rw [hset_ne hb hi hn, hset_ne1 hb hi hn (by decide), hset_ne1 hb hi hn (by decide), hset_ne1 hb hi hn (by decide)]
theorem zerH_set {n : Nat} {h : Nat → UInt64} {b : Nat} {li ag ac su : UInt64} (hz : zerH n h) (hb : b < n) (hn : n ≤ 8) : zerH n (hset h b li ag ac su) := by
  intro k hk
  unfold hset
  rw [if_neg (by omega), if_neg (by omega), if_neg (by omega), if_neg (by omega)]
  exact hz k hk
theorem HB_set {m n : Nat} {h : Nat → UInt64} {b : Nat} {li ag ac su : UInt64} (hb : HB m n h) (hbn : b < n) (hn : n ≤ 8) (h1 : LB li) (h2 : VB m ag) (h3 : VB m ac) (h4 : VB m su) : HB m n (hset h b li ag ac su) := by
  refine ⟨zerH_set hb.1 hbn hn, fun i hi => ?_⟩
  by_cases e : i = b
  · subst e; exact BB_set h1 h2 h3 h4
  · exact (BB_ne (by omega) (by omega) e).mpr (hb.2 i hi)
theorem sub_gt {a b : UInt64} (ha : NF a) (hb : NF b) (hg : FP.dcmp (FP.dsub a b) 0 = some .gt) : NF (FP.dsub a b) ∧ 0 < (FP.dsub a b).toNat ∧ (FP.dsub a b).toNat ≤ a.toNat ∧ b.toNat < a.toNat := by
  have hlt : b.toNat < a.toNat := by
    refine Nat.not_le.mp fun h => ?_
    have h1 := dsub_nonpos ha hb h
    rw [cmp_zv (dsub_ne ha.fin hb.fin) ne_0, zv_0] at hg
    have h2 : compare (zv (FP.dsub a b)) 0 = .gt := Option.some.inj hg
    have h3 := Int.compare_eq_gt.mp h2
    omega
  obtain ⟨h1, h2, h3⟩ := dsub_pos ha hb hlt
  exact ⟨h1, h2, h3, hlt⟩
theorem sub_cmp {a b : UInt64} (ha : NF a) (hb : NF b) : FP.dcmp (FP.dsub a b) 0 ≠ none := cmp_ne (dsub_ne ha.fin hb.fin) ne_0
theorem lesv_or (a b : UInt64) : lesv a b = a ∨ lesv a b = b := by
  unfold lesv
  split
  · exact Or.inl rfl
  · exact Or.inr rfl
theorem i2d_sz : ∀ k : Fin 101, (FP.i2d (nI k.val)).toNat ≤ 4636737291354636288 ∧ (full (nI k.val)).toNat ≤ 4636737291354636288 := by decide +kernel
theorem sz_d {k : Nat} (hk : k ≤ 100) : (FP.i2d (nI k)).toNat ≤ 4636737291354636288 ∧ (full (nI k)).toNat ≤ 4636737291354636288 := i2d_sz ⟨k, by omega⟩
theorem ud_100 : ud 4636737291354636288 = 100 * 2 ^ 1074 := by decide +kernel
theorem nf_100 {x : UInt64} (h : x.toNat ≤ 4636737291354636288) : NF x := by unfold NF; omega
theorem lb_100 {x : UInt64} (h : x.toNat ≤ 4636737291354636288) : LB x := by unfold LB; omega
theorem ud_le100 {x : UInt64} (h : x.toNat ≤ 4636737291354636288) : ud x ≤ 100 * 2 ^ 1074 := by
  rw [← ud_100]; exact ud_le.mpr h
theorem add_200 {a b : UInt64} (ha : a.toNat ≤ 4636737291354636288) (hb : b.toNat ≤ 4636737291354636288) : LB (FP.dadd a b) :=
  dadd_le (v := 4641240890982006784) (nf_100 ha) (nf_100 hb) (by unfold NN; decide +kernel) (by
    rw [ud_200]
    have := ud_le100 ha; have := ud_le100 hb
    omega)
theorem vB_0 {m : Nat} : VB m 0 := ⟨by unfold NF; decide +kernel, by rw [show ud 0 = 0 by decide +kernel]; exact Nat.zero_le _⟩
theorem vB_c {x : UInt64} {m : Nat} (h1 : NF x) (h2 : ud x ≤ 2 ^ (1074 + 7)) (hm : 7 ≤ m) : VB m x := VB.mono (m := 7) ⟨h1, h2⟩ hm
theorem vB_1 {m : Nat} (hm : 7 ≤ m) : VB m 4607182418800017408 := vB_c (by unfold NF; decide +kernel) (by decide +kernel) hm
theorem vB_30 {m : Nat} (hm : 7 ≤ m) : VB m 4629137466983448576 := vB_c (by unfold NF; decide +kernel) (by decide +kernel) hm
/-- what must can be poured -/
theorem mus_ok {z : Int32} {l0 X : UInt64} (hz : ZB z) (hl : LB l0) (hX : X.toNat ≤ 4636737291354636288) : vf_n64 (FP.dsub (FP.i2d z) l0) ∧ FP.dcmp X (FP.dsub (FP.i2d z) l0) ≠ none ∧ FP.dcmp (musv z l0 X) 0 ≠ none ∧ (FP.dcmp (musv z l0 X) 0 = some .gt → 0 < (musv z l0 X).toNat ∧ (musv z l0 X).toNat ≤ 4636737291354636288 ∧ l0.toNat ≤ 4636737291354636288) := by
  obtain ⟨k, hk1, hk2, rfl⟩ := hz
  have hzd := (sz_d hk2).1
  have hne := dsub_ne (nf_100 hzd).fin hl.nf.fin
  refine ⟨n64_of hne, cmp_ne (nf_100 hX).nn.ne hne, ?_, fun hg => ?_⟩
  · unfold musv
    rcases lesv_or X (FP.dsub (FP.i2d (nI k)) l0) with e | e
    · rw [e]; exact cmp_ne (nf_100 hX).nn.ne ne_0
    · rw [e]; exact cmp_ne hne ne_0
  · unfold musv lesv at hg ⊢
    by_cases hc : FP.dcmp X (FP.dsub (FP.i2d (nI k)) l0) = some .lt
    · rw [if_pos hc] at hg ⊢
      have h0 := (ge_0 (nf_100 hX).nn).mp hg
      have hr : FP.dcmp (FP.dsub (FP.i2d (nI k)) l0) 0 = some .gt := by
        rw [cmp_zv (nf_100 hX).nn.ne hne] at hc
        have h1 := Int.compare_eq_lt.mp (Option.some.inj hc)
        rw [(nf_100 hX).nn.uz] at h1
        rw [cmp_zv hne ne_0, zv_0]
        exact congrArg some (Int.compare_eq_gt.mpr (by omega))
      obtain ⟨-, -, -, h4⟩ := sub_gt (nf_100 hzd) hl.nf hr
      exact ⟨h0, hX, by omega⟩
    · rw [if_neg hc] at hg ⊢
      obtain ⟨-, h2, h3, h4⟩ := sub_gt (nf_100 hzd) hl.nf hg
      exact ⟨h2, by omega, by omega⟩
theorem pook_of {m : Nat} {z : Int32} {h : Nat → UInt64} {X : UInt64} (hz : ZB z) (hb : BB m h 0) (hX : X.toNat ≤ 4636737291354636288) (hm : 7 ≤ m) (hm2 : m ≤ 800) : pook z h X := by
  obtain ⟨h1, h2, h3, h4⟩ := mus_ok hz hb.1 hX
  refine ⟨h1, h2, h3, fun hg => ?_⟩
  obtain ⟨g1, g2, g3⟩ := h4 hg
  exact ⟨(mix_ok hb.1 (lb_100 g2) g1 hb.2.1 vB_0 hm2).1, (mix_ok hb.1 (lb_100 g2) g1 hb.2.2.1 (vB_1 hm) hm2).1, (mix_ok hb.1 (lb_100 g2) g1 hb.2.2.2 (vB_30 hm) hm2).1⟩
theorem poH_HB {m n : Nat} {z : Int32} {h : Nat → UInt64} {X : UInt64} (hz : ZB z) (hb : HB m n h) (h0 : 0 < n) (hn : n ≤ 8) (hX : X.toNat ≤ 4636737291354636288) (hm : 7 ≤ m) (hm2 : m ≤ 800) : HB (m + 1) n (poH h (musv z (h 0) X)) := by
  have h0b := hb.2 0 h0
  obtain ⟨-, -, -, h4⟩ := mus_ok hz h0b.1 hX
  unfold poH
  split
  · rename_i hg
    obtain ⟨g1, g2, g3⟩ := h4 hg
    exact HB_set (hb.mono (by omega)) h0 hn (add_200 g3 g2) (mix_ok h0b.1 (lb_100 g2) g1 h0b.2.1 vB_0 hm2).2 (mix_ok h0b.1 (lb_100 g2) g1 h0b.2.2.1 (vB_1 hm) hm2).2 (mix_ok h0b.1 (lb_100 g2) g1 h0b.2.2.2 (vB_30 hm) hm2).2
  · exact hb.mono (by omega)
theorem pmH_HB {m n : Nat} {zs : Nat → Int32} {h : Nat → UInt64} {X : UInt64} (hz : ∀ i, i < n → ZB (zs i)) (hb : HB m n h) (hn : n ≤ 8) (hX : X.toNat ≤ 4636737291354636288) (hm : 7 ≤ m) (hm2 : m ≤ 800) : HB (m + 1) n (pmH n zs h X) := by
  unfold pmH
  split
  · exact hb.mono (by omega)
  · exact poH_HB (hz 0 (by omega)) hb (by omega) hn hX hm hm2
/-- a hundred litres are never too few -/
theorem mus_100 {z : Int32} {l0 : UInt64} (hz : ZB z) (hl : LB l0) : musv z l0 (FP.i2d 100) = FP.dsub (FP.i2d z) l0 := by
  obtain ⟨k, hk1, hk2, rfl⟩ := hz
  have hzd := (sz_d hk2).1
  have hne := dsub_ne (nf_100 hzd).fin hl.nf.fin
  have e100 : (FP.i2d 100).toNat = 4636737291354636288 := by decide +kernel
  have f100 : NF (FP.i2d 100) := nf_100 (by omega)
  unfold musv lesv
  refine if_neg fun hc => ?_
  rw [cmp_zv f100.nn.ne hne] at hc
  have h1 := Int.compare_eq_lt.mp (Option.some.inj hc)
  have h2 : zv (FP.dsub (FP.i2d (nI k)) l0) ≤ zv (FP.i2d 100) := zsub_le (nf_100 hzd).fin hl.nf.fin f100.nn.ne (by
    rw [(nf_100 hzd).nn.uz, hl.nf.nn.uz, f100.nn.uz]
    have h3 : ud (FP.i2d (nI k)) ≤ ud (FP.i2d 100) := ud_le.mpr (by rw [e100]; exact hzd)
    omega)
  omega
