/-! taste, means, a year tried, who is refused -/
theorem dfin_neg {a : UInt64} (h : FP.Core.DFin a) : FP.Core.DFin (FP.dneg a) := by
  obtain ⟨s, c, q, e⟩ := neg_fin h
  exact ⟨s, c, q, (FP.val64_dneg a).trans e⟩
theorem vB_mul {m : Nat} {a c : UInt64} (ha : VB m a) (hc : NF c) (hu : ud c ≤ 2 ^ 1074) : VB m (FP.dmul c a) := by
  have p : (FP.dmul c a).toNat ≤ a.toNat := dmul_le hc ha.1 ha.1.nn (by
    rw [Nat.mul_comm]
    exact Nat.mul_le_mul_left _ hu)
  exact ⟨nf_le ha.1 p, Nat.le_trans (ud_of_le p) ha.2⟩
theorem tas_ok {m : Nat} {ag ac su : UInt64} (h1 : VB m ag) (h2 : VB m ac) (h3 : VB m su) (hm : 7 ≤ m) (hm2 : m ≤ 800) : tasok ag ac su := by
  have n6 : NF 4618441417868443648 := by unfold NF; decide +kernel
  have hD := dsub_ne h2.1.fin n6.fin
  obtain ⟨V, f, u⟩ := mk_units 1 (1074 + m) (by decide) (by omega)
  rw [Nat.one_mul] at u
  have e6 : ud 4618441417868443648 ≤ 2 ^ (1074 + m) := Nat.le_trans (show _ ≤ 2 ^ (1074 + 7) by decide +kernel) (Nat.pow_le_pow_right (by decide) (by omega))
  have z1 : zv (FP.dsub ac 4618441417868443648) ≤ zv V := zsub_le h2.1.fin n6.fin f.nn.ne (by
    rw [h2.1.nn.uz, n6.nn.uz, f.nn.uz, u]
    have := h2.2
    omega)
  have e5 : zv (FP.dneg 4618441417868443648) = -(ud 4618441417868443648 : Int) := by decide +kernel
  have z2 : zv (FP.dneg 4618441417868443648) ≤ zv (FP.dsub ac 4618441417868443648) := zsub_ge h2.1.fin n6.fin (by decide +kernel) (by
    rw [e5, h2.1.nn.uz, n6.nn.uz]
    omega)
  have fD : FP.Core.DFin (FP.dsub ac 4618441417868443648) := fin_abs hD f (by
    rw [f.nn.uz] at z1
    rw [e5] at z2
    rw [u] at z1 ⊢
    omega)
  have fA : FP.Core.DFin (absv (FP.dsub ac 4618441417868443648)) := by
    unfold absv
    split
    · exact dfin_neg fD
    · exact fD
  have c5 := vB_mul h1 nf_half (by decide +kernel)
  have c8 := vB_mul h3 (c := 4605380978949069210) (by unfold NF; decide +kernel) (by decide +kernel)
  obtain ⟨V2, f2, u2⟩ := mk_units 1 (1074 + (m + 1)) (by decide) (by omega)
  have p : (FP.dadd (FP.dmul 4602678819172646912 ag) (FP.dmul 4605380978949069210 su)).toNat ≤ V2.toNat := dadd_le c5.1 c8.1 f2.nn (by
    rw [u2, Nat.one_mul, show 1074 + (m + 1) = 1074 + m + 1 by omega, Nat.pow_succ]
    have a1 := c5.2
    have a2 := c8.2
    omega)
  have nS := nf_le f2 p
  have f3 : NF 4613937818241073152 := by unfold NF; decide +kernel
  have nX := dmul_ne f3.fin fA
  exact ⟨n64_of hD, cmp_ne hD ne_0, c5.1.nn.n64, c8.1.nn.n64, nS.nn.n64, n64_of nX, n64_of ((FP.Core.notNaN_iff _).mp (FP.Core.dsub_out' nS.fin ((FP.Core.notNaN_iff _).mpr nX)))⟩
theorem tas_all {m n : Nat} {h : Nat → UInt64} (hb : HB m n h) (hm : 7 ≤ m) (hm2 : m ≤ 800) : ∀ j, j < n → FP.dcmp (h j) 0 ≠ none ∧ (FP.dcmp (h j) 0 = some .gt → tasok (h (8 + j)) (h (16 + j)) (h (24 + j))) := fun j hj =>
  ⟨cmp_ne (hb.2 j hj).1.nf.nn.ne ne_0, fun _ => tas_ok (hb.2 j hj).2.1 (hb.2 j hj).2.2.1 (hb.2 j hj).2.2.2 hm hm2⟩
theorem sul_all : ∀ k : Fin 8, ud (FP.i2d (nI (200 * k.val))) + 200 * 2 ^ 1074 ≤ ud (FP.i2d (nI (200 * (k.val + 1)))) ∧ (FP.i2d (nI (200 * (k.val + 1)))).toNat ≤ 4654751689864118272 := by decide +kernel
theorem sul_k {k : Nat} (hk : k < 8) : ud (FP.i2d (nI (200 * k))) + 200 * 2 ^ 1074 ≤ ud (FP.i2d (nI (200 * (k + 1)))) ∧ (FP.i2d (nI (200 * (k + 1)))).toNat ≤ 4654751689864118272 := sul_all ⟨k, hk⟩
theorem suL_nf {m n : Nat} {h : Nat → UInt64} (hn : n ≤ 8) (hb : HB m n h) : ∀ k, k ≤ n → NF (suL h k) ∧ ud (suL h k) ≤ ud (FP.i2d (nI (200 * k)))
  | 0, _ => ⟨nf_0, by show ud 0 ≤ _; rw [show ud 0 = 0 by decide +kernel]; exact Nat.zero_le _⟩
  | k + 1, hk => by
    obtain ⟨i1, i2⟩ := suL_nf hn hb k (by omega)
    obtain ⟨s1, s2⟩ := sul_k (k := k) (by omega)
    have bb := (hb.2 k (by omega)).1
    have hV : NF (FP.i2d (nI (200 * (k + 1)))) := by unfold NF; omega
    have p : (FP.dadd (suL h k) (h k)).toNat ≤ (FP.i2d (nI (200 * (k + 1)))).toNat := dadd_le i1 bb.nf hV.nn (by
      have := bb.ud
      omega)
    exact ⟨nf_le hV p, ud_of_le p⟩
theorem suP_nn {m n f : Nat} {h : Nat → UInt64} (hf : f = 8 ∨ f = 24) (hb : HB m n h) : ∀ k, k ≤ n → NN (suP f h k)
  | 0, _ => nn_0
  | k + 1, hk => by
    have bb := hb.2 k (by omega)
    refine nn_dadd (suP_nn hf hb k (by omega)) (nn_dmulF bb.1.nf ?_)
    rcases hf with rfl | rfl
    · exact bb.2.1.1
    · exact bb.2.2.2.1
theorem any_ok {m n : Nat} {h : Nat → UInt64} (hn : n ≤ 8) (hb : HB m n h) : ∀ k, k ≤ n → (anyB h k = 0 ↔ (suL h k).toNat = 0)
  | 0, _ => ⟨fun _ => by show (0 : UInt64).toNat = 0; decide, fun _ => rfl⟩
  | k + 1, hk => by
    have ih := any_ok hn hb k (by omega)
    obtain ⟨i1, -⟩ := suL_nf hn hb k (by omega)
    have bb := (hb.2 k (by omega)).1.nf
    have gL := dadd_geL i1 bb
    have gR := dadd_geR i1 bb
    show (if anyB h k = 0 then (if FP.dcmp (h k) 0 = some .gt then (1 : Int32) else 0) else 1) = 0 ↔ (FP.dadd (suL h k) (h k)).toNat = 0
    by_cases e : anyB h k = 0
    · rw [if_pos e]
      have e0 := ih.mp e
      by_cases g : FP.dcmp (h k) 0 = some .gt
      · rw [if_pos g]
        have := (ge_0 bb.nn).mp g
        exact ⟨fun h9 => absurd h9 (by decide), fun h9 => by omega⟩
      · rw [if_neg g]
        have g0 : ¬ 0 < (h k).toNat := fun h9 => g ((ge_0 bb.nn).mpr h9)
        have e1 : suL h k = 0 := UInt64.toNat_inj.mp (by rw [e0]; decide)
        have e2 : h k = 0 := UInt64.toNat_inj.mp (by rw [show (h k).toNat = 0 by omega]; decide)
        rw [e1, e2]
        exact ⟨fun _ => by decide +kernel, fun _ => rfl⟩
    · rw [if_neg e]
      have : (suL h k).toNat ≠ 0 := fun h9 => e (ih.mpr h9)
      exact ⟨fun h9 => absurd h9 (by decide), fun h9 => by omega⟩
theorem mn_ok {m n f : Nat} {h : Nat → UInt64} (hf : f = 8 ∨ f = 24) (hn : n ≤ 8) (hb : HB m n h) : mnok f h n ∧ mnM f h n := by
  have hL : suLok h n := fun k hk => (suL_nf hn hb (k + 1) (by omega)).1.nn.n64
  have hP : suPok f h n := fun k hk => by
    have bb := hb.2 k hk
    refine ⟨(nn_dmulF bb.1.nf ?_).n64, (suP_nn hf hb (k + 1) (by omega)).n64⟩
    rcases hf with rfl | rfl
    · exact bb.2.1.1
    · exact bb.2.2.2.1
  obtain ⟨nS, -⟩ := suL_nf hn hb n (Nat.le_refl n)
  have hd : 0 < (suL h n).toNat → vf_n64 (FP.ddiv (suP f h n) (suL h n)) := fun h0 => (nn_ddiv (suP_nn hf hb n (Nat.le_refl n)) nS h0).n64
  have ha := any_ok hn hb n (Nat.le_refl n)
  refine ⟨⟨hL, cmp_ne nS.nn.ne ne_0, fun hg => ⟨hP, hd ((ge_0 nS.nn).mp hg)⟩⟩, hL, hP, ⟨fun e hg => ?_, fun hg => ?_⟩, fun e => hd ?_⟩
  · have := (ge_0 nS.nn).mp hg
    have := ha.mp e
    omega
  · refine ha.mpr ?_
    have : ¬ 0 < (suL h n).toNat := fun h9 => hg ((ge_0 nS.nn).mpr h9)
    omega
  · have : ¬ (suL h n).toNat = 0 := fun h9 => e (ha.mpr h9)
    omega
/-! a year tried -/
theorem st_ok {m n : Nat} {wd zs : Nat → Int32} {wm : Int32} {h : Nat → UInt64} (hz : ∀ i, i < n → ZB (zs i)) (hw : WB wm) (hn : n ≤ 8) (hb : HB m n h) (hm : 7 ≤ m) (hm2 : m ≤ 790) : stM wd zs wm n h ∧ HB (m + 3) n (stH wd zs wm n h) := by
  have e100 : (FP.i2d 100).toNat ≤ 4636737291354636288 := by decide +kernel
  have b1 := pmH_HB (zs := zs) hz hb hn e100 hm (by omega)
  obtain ⟨t1, t2, b2⟩ := to_HB hz hn (by omega) b1
  obtain ⟨y1, y2, y3, b3⟩ := year_all (wd := wd) hn b2 hw (by omega) (by omega)
  have b3' : HB (m + 3) n (stH wd zs wm n h) := b3
  refine ⟨⟨⟨fun h0 => pook_of (hz 0 (by omega)) (hb.2 0 (by omega)) e100 hm (by omega), t1, y1, y2, b3'.nnr, quv_n64 b3', rd_ok b3' (quv_QB b3')⟩, fun h0 => mus_100 (hz 0 (by omega)) (hb.2 0 (by omega)).1, t2, y3, rd_M _ b3' (quv_QB b3')⟩, b3'⟩
theorem stI_ok {m n : Nat} {wd zs : Nat → Int32} {wm : Int32} {h : Nat → UInt64} (hz : ∀ i, i < n → ZB (zs i)) (hw : WB wm) (hn : n ≤ 8) (hb : HB m n h) (hm : 7 ≤ m) (hm2 : m ≤ 600) : ∀ i, i < 61 → HB (m + 3 * i) n (stI wd zs wm n i h)
  | 0, _ => hb
  | i + 1, hi => by
    exact (st_ok (wd := wd) (wm := wm) hz hw hn (stI_ok (wd := wd) (wm := wm) hz hw hn hb hm hm2 i (by omega)) (by omega) (by omega)).2
theorem fb_ok {m n : Nat} {wd zs : Nat → Int32} {wm : Int32} {h : Nat → UInt64} (hz : ∀ i, i < n → ZB (zs i)) (hw : WB wm) (hn : n ≤ 8) (hb : HB m n h) (hm : 7 ≤ m) (hm2 : m ≤ 600) : ∀ i, i < 60 → stM wd zs wm n (stI wd zs wm n i h) := fun i hi =>
  (st_ok hz hw hn (stI_ok hz hw hn hb hm hm2 i (by omega)) (by omega) (by omega)).1
theorem zer_pm {n : Nat} {zs : Nat → Int32} {h : Nat → UInt64} {X : UInt64} (hn : n ≤ 8) (hz : zerH n h) : zerH n (pmH n zs h X) := by
  unfold pmH
  split
  · exact hz
  · unfold poH
    split
    · exact zerH_set hz (by omega) hn
    · exact hz
theorem zer_to {n : Nat} {zs : Nat → Int32} (hn : n ≤ 8) : ∀ (k : Nat) (h : Nat → UInt64), (k = 0 ∨ k < n) → zerH n h → zerH n (toH zs k h)
  | 0, h, _, hz => hz
  | k + 1, h, hk, hz => by
    have hk : k + 1 < n := hk.resolve_left (by omega)
    refine zer_to hn k (paH zs h k) (Or.inr (by omega)) ?_
    unfold paH
    split
    · exact zerH_set (zerH_set hz hk hn) (by omega) hn
    · exact hz
theorem zer_ag {n : Nat} {wd : Nat → Int32} {dr : UInt64} {h : Nat → UInt64} (hn : n ≤ 8) (hz : zerH n h) : ∀ k, k ≤ n → zerH n (agH wd dr h k)
  | 0, _ => hz
  | k + 1, hk => by
    have ih := zer_ag (wd := wd) (dr := dr) hn hz k (by omega)
    show zerH n (yrH wd dr (agH wd dr h k) k)
    unfold yrH
    split
    · exact zerH_set ih (by omega) hn
    · exact ih
theorem zer_st {n : Nat} {wd zs : Nat → Int32} {wm : Int32} {h : Nat → UInt64} (hn : n ≤ 8) (hz : zerH n h) : ∀ k, zerH n (stI wd zs wm n k h)
  | 0 => hz
  | k + 1 => zer_ag hn (zer_to hn (n - 1) _ (by omega) (zer_pm hn (zer_st hn hz k))) n (Nat.le_refl n)
theorem bad_eq {zs : Nat → Int32} {n : Nat} {x z : Int32} (hn : n ≤ 8) (hz : ∀ i, i < n → ZB (zs i)) : badA1 zs n x z ↔ ((x < 0 ∨ 3 < x) ∨ (z < 10 ∨ 100 < z) ∨ (nI n ≠ 0 ∧ zs (n - 1) ≤ z)) := by
  unfold badA1 lgN
  have e4 : (4 : Int32).toInt = 4 := by decide
  have e3 : (3 : Int32).toInt = 3 := by decide
  have e10 : (10 : Int32).toInt = 10 := by decide
  have e100 : (100 : Int32).toInt = 100 := by decide
  have e0 : (0 : Int32).toInt = 0 := by decide
  by_cases h0 : n = 0
  · subst h0
    rw [if_pos rfl]
    have hn0 : ¬ (nI 0 ≠ 0 ∧ zs (0 - 1) ≤ z) := fun h => h.1 rfl
    simp only [hn0, or_false]
    simp only [Int32.lt_iff_toInt_lt, Int32.le_iff_toInt_le, e4, e3, e10, e100, e0]
    omega
  · rw [if_neg h0]
    obtain ⟨k, hk1, hk2, e⟩ := hz (n - 1) (by omega)
    have hn0 : nI n ≠ 0 := nI_ne0 (by omega) (by omega)
    rw [e, nI_p (by omega)]
    simp only [ne_eq, hn0, not_false_eq_true, true_and, Int32.lt_iff_toInt_lt, Int32.le_iff_toInt_le, e4, e3, e10, e100, e0, nI_toInt (show k < 2 ^ 31 by omega), nI_toInt (show k - 1 < 2 ^ 31 by omega)]
    omega
