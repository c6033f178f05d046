/-! REAL VALUES 11: what isAged asks -/
theorem c12_nn : NN 4622945017495814144 := by unfold NN; decide +kernel
theorem c70_nn : NN 4634626229029306368 := by unfold NN; decide +kernel
/-- the acid is at most 12, the sugar at most 70 -/
theorem soA_le {ac su : UInt64} (ha : NF ac) (hs : NN (FP.dadd ac 4591870180066957722)) : (soA ac su).toNat ≤ (4622945017495814144 : UInt64).toNat := by
  unfold soA
  by_cases c : FP.dcmp su 4626322717216342016 = some .gt ∧ FP.dcmp ac 4620693217682128896 = some .lt
  · rw [if_pos c]
    have h1 := (cmp_nn ha.nn (show NN 4620693217682128896 by unfold NN; decide +kernel)).1.mp c.2
    have h2 := ud_of_le (Nat.le_of_lt h1)
    exact dadd_le ha (by unfold NF; decide +kernel) c12_nn (Nat.le_trans (Nat.add_le_add_right h2 _) (by decide +kernel))
  · rw [if_neg c]
    by_cases c2 : FP.dcmp (FP.dadd ac 4591870180066957722) 4622945017495814144 = some .gt
    · rw [if_pos c2]; exact Nat.le_refl _
    · rw [if_neg c2]
      exact Nat.le_of_not_lt fun h9 => c2 ((cmp_nn hs c12_nn).2.2.mpr h9)
theorem soS_le {ac su : UInt64} (hs : su.toNat ≤ 4634626229029306368) : (soS ac su).toNat ≤ (4634626229029306368 : UInt64).toNat := by
  unfold soS
  by_cases c : FP.dcmp su 4626322717216342016 = some .gt ∧ FP.dcmp ac 4620693217682128896 = some .lt
  · rw [if_pos c]
    have hn := nf_70 hs
    have h1 := (cmp_nn hn.nn (show NN 4626322717216342016 by unfold NN; decide +kernel)).2.2.mp c.1
    have h2 : (4605380978949069210 : UInt64).toNat < su.toNat := Nat.lt_trans (by decide +kernel) h1
    exact Nat.le_trans (dsub_pos hn (by unfold NF; decide +kernel) h2).2.2 hs
  · rw [if_neg c]
    exact hs
theorem soS_nn {ac su : UInt64} (hs : su.toNat ≤ 4634626229029306368) : NN (soS ac su) := by
  have h := soS_le (ac := ac) hs
  have e : (4634626229029306368 : UInt64).toNat = 4634626229029306368 := by decide
  unfold NN
  omega
theorem soA_nn {ac su : UInt64} (ha : NF ac) (hs : NN (FP.dadd ac 4591870180066957722)) : NN (soA ac su) := by
  have h := soA_le (su := su) ha hs
  have e : (4622945017495814144 : UInt64).toNat = 4622945017495814144 := by decide
  unfold NN
  omega
theorem clE_of {a b : UInt64} (ha : NN a) (hb : NN b) (h : a.toNat ≤ b.toNat) : clE a b := ⟨cmp_ne ha.ne hb.ne, fun h9 => by have := (cmp_nn ha hb).2.2.mp h9; omega⟩
theorem cgE_of {a b : UInt64} (ha : NN a) (hb : NN b) (h : b.toNat ≤ a.toNat) : cgE a b := ⟨cmp_ne ha.ne hb.ne, fun h9 => by have := (cmp_nn ha hb).1.mp h9; omega⟩
theorem ceq_of {a b : UInt64} (ha : NN a) (hb : NN b) (h : a.toNat = b.toNat) : FP.dcmp a b = some .eq := (cmp_nn ha hb).2.1.mpr h
set_option maxHeartbeats 1000000 in
theorem ageF_of {m n Y : Nat} {wd zs : Nat → Int32} {wm yg : Int32} {h : Nat → UInt64} {lam M : Rat} (hn0 : 0 < n) (hn : n ≤ 8) (hm7 : 7 ≤ m) (hm : m ≤ 300) (hw : WB wm) (hb : HB m n h) (hE : EZ n h) (hC : 2 * rv cL ≤ lam) (hC4 : 2 * rv cL ≤ lam / 4) (hl1 : lam ≤ 1) (hW : ∀ j, j < n → (h j).toNat = 0 ∨ lam ≤ rv (h j)) (hM0 : 0 ≤ M) (hM : M ≤ 190) (hA : ∀ j, j < n → rv (h (8 + j)) ≤ M) (hY : Y ≤ 150) (hyg : yg = nI Y) (hMY : M ≤ ((Y : Nat) : Rat) + 1 / 134217728) :
    ageF n wd wm yg h ∧ EZ n (agH wd (drv wm) h n) ∧ (∀ j, j < n → (agH wd (drv wm) h n j).toNat = 0 ∨ lam / 4 ≤ rv (agH wd (drv wm) h n j)) ∧ (∀ j, j < n → rv (agH wd (drv wm) h n (8 + j)) ≤ M + 1 + 1 / 1099511627776) ∧ (agH wd (drv wm) h n 0).toNat ≤ (h 0).toNat := by
  have et := eta_pos
  have cl0 : 0 < rv cL := (rv_pos nf_cL.nn).mpr (by decide)
  have hlp : 0 < lam := by grind
  obtain ⟨y1, y2, y3, y4⟩ := year_all (wd := wd) hn hb hw hm7 (by omega)
  have nh := hb.nnr
  have nh' := y4.nnr
  have hat := fun j (hj : j < n) => (ag_at (wd := wd) (dr := drv wm) (h := h) n hn j (by omega)).2 hj
  have hyl := fun j (hj : j < n) (hg : gtz (h j)) => yr_l (wd := wd) hn hb hw hC hW hj hg
  obtain ⟨s1, s2, s3, s4, s5⟩ := ag_sum (wd := wd) hn hb hw hC hW n (Nat.le_refl n)
  have dr4 := (dr_ok hw).2
  have hyk := fun j (hj : j < n) (hg : gtz (h j)) => year_ok (w := wd j) (hb.2 j hj) hg dr4 hm7 (by omega)
  -- what the barrels hold then
  have hEZ : EZ n (agH wd (drv wm) h n) := fun j hj hz => by
    by_cases hg : gtz (h j)
    · obtain ⟨q0, -, q2, -⟩ := hyl j hj hg
      rw [q0] at hz
      omega
    · obtain ⟨q0, q1, q2, q3⟩ := (hat j hj).2 hg
      rw [q0] at hz
      rw [q1, q2, q3]
      exact hE j hj hz
  have hLW : ∀ j, j < n → (agH wd (drv wm) h n j).toNat = 0 ∨ lam / 4 ≤ rv (agH wd (drv wm) h n j) := fun j hj => by
    by_cases hg : gtz (h j)
    · obtain ⟨q0, q1, q2, q3, q4, q5, q6, q7, q8⟩ := hyl j hj hg
      rw [q0]
      refine Or.inr ?_
      generalize rv (FP.dsub (h j) (losv (wd j) (h j) (drv wm))) = l1 at *
      generalize rv (losv (wd j) (h j) (drv wm)) = lo at *
      generalize rv (h j) = l at *
      clear hat hyl hyk hW hA s1 s2 s3 s4 s5 hE hEZ
      grind
    · rw [((hat j hj).2 hg).1]
      refine (hW j hj).imp id (fun h9 => ?_)
      clear hat hyl hyk hW hA s1 s2 s3 s4 s5 hE hEZ
      grind
  have hAG : ∀ j, j < n → rv (agH wd (drv wm) h n (8 + j)) ≤ M + 1 + 1 / 1099511627776 := fun j hj => by
    have ha := (hb.2 j hj).2.1
    by_cases hg : gtz (h j)
    · rw [((hat j hj).1 hg).2.1]
      have hv : BD (1074 + m) (h (8 + j)) := ha
      have b := bd_add (hv.mono (show 1074 + m ≤ 1074 + m + 1 by omega)) (bd_c1.mono (show 1074 ≤ 1074 + m + 1 by omega)) (by omega)
      have e := (add_err ha.1 nf_c1 (bd_r b (by omega))).1
      rw [c1_v] at e
      have h1 := hA j hj
      have h2 := rv_0 ha.1.nn
      generalize rv (FP.dadd (h (8 + j)) 4607182418800017408) = z at *
      generalize rv (h (8 + j)) = a at *
      clear hat hyl hyk hW hA s1 s2 s3 s4 s5 hE hEZ hLW
      grind
    · rw [((hat j hj).2 hg).2.1]
      have := hA j hj
      clear hat hyl hyk hW hA s1 s2 s3 s4 s5 hE hEZ hLW
      grind
  have hle : ∀ j, j < n → (agH wd (drv wm) h n j).toNat ≤ (h j).toNat := fun j hj => by
    by_cases hg : gtz (h j)
    · obtain ⟨q0, -, -, q3, -⟩ := hyl j hj hg
      rw [q0]
      exact q3
    · rw [((hat j hj).2 hg).1]
      exact Nat.le_refl _
  have hpos : ∀ j, j < n → (gtz (agH wd (drv wm) h n j) ↔ gtz (h j)) := fun j hj => by
    by_cases hg : gtz (h j)
    · obtain ⟨q0, q1, q2, -⟩ := hyl j hj hg
      rw [q0]
      exact ⟨fun _ => hg, fun _ => (gtz_pos q1.nn).mpr q2⟩
    · rw [((hat j hj).2 hg).1]
  refine ⟨?_, hEZ, hLW, hAG, hle 0 hn0⟩
  have sb0 := suL_bd hn hb (k := n) (Nat.le_refl n)
  have sb1 := suL_bd hn y4 (k := n) (Nat.le_refl n)
  have t0 := suL_a hn hb
  have t1 := suL_a hn y4
  have hkr := kr_le hn
  have bs := bd_add (sb1.mono (show 1085 ≤ 1100 by decide)) (s1.mono (show 1085 + n ≤ 1100 by omega)) (by decide)
  have es := add_err sb1.1 s1.1 (bd_r bs (by decide))
  have gSL : FP.dcmp (suL h n) 0 = some .gt ↔ 0 < SL h n := suL_gt hn hb
  have sNN := sb0.1.nn
  have hYb := i2d_bd (k := Y + 1) (by omega)
  have hYv := i2d_v (k := Y + 1) (by omega)
  have hyg1 : yg + 1 = nI (Y + 1) := by rw [hyg]; exact nI_1 Y
  have b6 := bd_add (hYb.mono (show 1084 ≤ 1100 by decide)) (bd_c6.mono (show 1074 ≤ 1100 by decide)) (by decide)
  have e6 := add_err hYv.1 nf_c6 (bd_r b6 (by decide))
  rw [c6_v, hYv.2] at e6
  have hY1 : ((Y + 1 : Nat) : Rat) = ((Y : Nat) : Rat) + 1 := by rw [Rat.natCast_add]; rfl
  have hYr := rle hY
  have n150 : ((150 : Nat) : Rat) = 150 := rfl
  rw [n150] at hYr
  have hY0 : 0 ≤ ((Y : Nat) : Rat) := Rat.natCast_nonneg
  have mb := mean_bd (f := 8) (by omega) hn y4 (Or.inl rfl) hLW hC4
  have ml := mean_le (lam := lam / 4) (M := M + 1 + 1 / 1099511627776) (by omega) hn y4 hC4 hLW (by grind) (by grind) hAG
  refine ⟨⟨(mn_ok (Or.inl rfl) hn hb).1.1, nh, y1, y2, nh', quv_n64 y4, (mn_ok (Or.inl rfl) hn y4).1.1⟩, ⟨bs.1.nn.n64, ?_⟩, cmp_ne sNN.ne ne_0, cmp_ne s1.1.nn.ne ne_0, fun h9 => ?_, fun h9 => ?_, fun i hi => ?_, (mn_ok (Or.inl rfl) hn y4).1, ?_, rd_ok y4 (quv_QB y4), fun h9 => ?_⟩
  · refine near_of (bs.mono (by decide)) (sb0.mono (by decide)) ?_ ?_
    · clear hat hyl hyk hW hA s4 s5 hE hEZ hLW hAG hle hpos e6 ml
      generalize rv (FP.dadd (suL (agH wd (drv wm) h n) n) (agS wd (drv wm) h n)) = x1 at *
      generalize rv (suL (agH wd (drv wm) h n) n) = x2 at *
      generalize rv (suL h n) = x3 at *
      generalize rv (agS wd (drv wm) h n) = x4 at *
      generalize SL (agH wd (drv wm) h n) n = S1 at *
      generalize SL h n = S0 at *
      generalize ((n : Nat) : Rat) = K at *
      grind
    · clear hat hyl hyk hW hA s4 s5 hE hEZ hLW hAG hle hpos e6 ml
      generalize rv (FP.dadd (suL (agH wd (drv wm) h n) n) (agS wd (drv wm) h n)) = x1 at *
      generalize rv (suL (agH wd (drv wm) h n) n) = x2 at *
      generalize rv (suL h n) = x3 at *
      generalize rv (agS wd (drv wm) h n) = x4 at *
      generalize SL (agH wd (drv wm) h n) n = S1 at *
      generalize SL h n = S0 at *
      generalize ((n : Nat) : Rat) = K at *
      grind
  · have hz : rv (suL h n) = 0 := by
      have := (cmp_rv sNN.ne ne_0).2.2.mp h9
      rw [rv_zero] at this
      exact this
    rw [s5 (fun i hi hg => ?_)]
    · exact d00
    · have hl := (hb.2 i hi).1
      have h1 := (gt_rv hl.nf.nn).mp hg
      have h2 := (SL_ge hb n (Nat.le_refl n)).2 i hi
      have h3 := (gt_rv sNN).mp (gSL.mpr (by grind))
      grind
  · have hS : 0 < SL h n := by
      refine gSL.mp ((gt_rv sNN).mpr ?_)
      have h1 := rv_0 sNN
      refine Rat.not_le.mp fun h10 => h9 ((cmp_rv sNN.ne ne_0).2.2.mpr ?_)
      rw [rv_zero]
      exact Rat.le_antisymm h10 h1
    obtain ⟨i, hi, hip⟩ := SL_pos hb n (Nat.le_refl n) hS
    have gi : gtz (h i) := (gtz_pos (hb.2 i hi).1.nf.nn).mpr hip
    refine ⟨(gt_rv s1.1.nn).mpr ?_, ?_⟩
    · have h1 := s4 i hi gi
      obtain ⟨-, -, -, -, q4, -, -, -, q8⟩ := hyl i hi gi
      clear hat hyl hyk hW hA s4 s5 hE hEZ hLW hAG hle hpos e6 ml s3 es t0 t1
      grind
    · rcases elO_max nh n (Nat.le_refl n) with ⟨-, c⟩ | ⟨b0, c0, c1', c2, c3⟩
      · exact absurd gi (c i hi)
      · rcases elO_max nh' n (Nat.le_refl n) with ⟨-, c⟩ | ⟨b, d0, d1, d2, d3⟩
        · exact absurd ((hpos i hi).mpr gi) (c i hi)
        · have gb := (hpos b d1).mp d2
          have gb0 : gtz (agH wd (drv wm) h n b0) := (hpos b0 c1').mpr c2
          have ea := ((hat b d1).1 gb).2.1
          have ea0 := ((hat b0 c1').1 c2).2.1
          have f1 := (y4.2 b d1).2.1.1
          have f0 := (y4.2 b0 c1').2.1.1
          rw [ea] at f1
          rw [ea0] at f0
          have k1 := c3 b d1 gb
          have k2 := add_mono (hb.2 b d1).2.1.1 (hb.2 b0 c1').2.1.1 nf_c1 f1 f0 k1
          have k3 := d3 b0 c1' gb0
          rw [ea, ea0] at k3
          refine ⟨b, d0, d1, ?_, ?_⟩
          · rw [c0]
            exact f0.nn.n64
          · rw [c0, ea]
            exact ceq_of f1.nn f0.nn (Nat.le_antisymm k2 k3)
  · have hl := (hb.2 i hi).1
    have hl' := (y4.2 i hi).1
    have c9 := c9_r
    have b9 := bd_mul c9.1 hl.bd (by decide) (by decide)
    have e9 := mul_err c9.1.1 hl.nf (bd_r b9 (by decide))
    by_cases hg : gtz (h i)
    · obtain ⟨q0, q1, q2, q3, q4, q5, q6, q7, q8⟩ := hyl i hi hg
      obtain ⟨-, k2, -⟩ := hyk i hi hg
      obtain ⟨-, -, v2, v3⟩ := (hat i hi).1 hg
      have t70 := thick_le k2.1
      have w9 := Rat.mul_le_mul_of_nonneg_right c9.2 hl.r.1
      have l0 := rv_0 q6.1.nn
      have et9 := lam_eta hC
      refine ⟨clE_of hl'.nf.nn hl.nf.nn (hle i hi), b9.1.nn.n64, ⟨cmp_ne hl'.nf.nn.ne b9.1.nn.ne, fun h10 => ?_⟩, cmp_ne hl.nf.nn.ne ne_0, fun _ => (cmp_rv hl'.nf.nn.ne hl.nf.nn.ne).1.mpr ?_, ?_, ?_, fun h10 => absurd hg h10⟩
      · have h11 := (cmp_rv hl'.nf.nn.ne b9.1.nn.ne).1.mp h10
        rw [q0] at h11
        clear hat hyl hyk hW hA s4 s5 hE hEZ hLW hAG hle hpos e6 ml s3 es t0 t1
        generalize rv (FP.dmul 4606281698874543309 (h i)) = z9 at *
        generalize rv 4606281698874543309 * rv (h i) = zz at *
        generalize rv (FP.dsub (h i) (losv (wd i) (h i) (drv wm))) = l1 at *
        generalize rv (losv (wd i) (h i) (drv wm)) = lo at *
        generalize rv (h i) = l at *
        generalize eta = t at *
        grind
      · rw [q0]
        clear hat hyl hyk hW hA s4 s5 hE hEZ hLW hAG hle hpos e6 ml s3 es t0 t1 e9 w9
        generalize rv (FP.dsub (h i) (losv (wd i) (h i) (drv wm))) = l1 at *
        generalize rv (losv (wd i) (h i) (drv wm)) = lo at *
        generalize rv (h i) = l at *
        grind
      · rw [v3]
        exact clE_of (soS_nn t70) c70_nn (soS_le t70)
      · rw [v2]
        exact clE_of (soA_nn (hb.2 i hi).2.2.1.1 k2.2) c12_nn (soA_le (hb.2 i hi).2.2.1.1 k2.2)
    · obtain ⟨v0, v1, v2, v3⟩ := (hat i hi).2 hg
      have hz : (h i).toNat = 0 := Nat.eq_zero_of_not_pos (fun h9 => hg ((gtz_pos hl.nf.nn).mpr h9))
      obtain ⟨z1, z2, z3⟩ := hE i hi hz
      have hz2 : h i = 0 := toNat_0 hz
      have h90 : (FP.dmul 4606281698874543309 (h i)).toNat = 0 := by
        have := dmul_le (v := 0) c9.1.1 hl.nf nn_r0 (by rw [hz2, show ud 0 = 0 by decide +kernel, Nat.mul_zero]; exact Nat.zero_le _)
        have e : (0 : UInt64).toNat = 0 := by decide
        omega
      refine ⟨clE_of hl'.nf.nn hl.nf.nn (hle i hi), b9.1.nn.n64, cgE_of hl'.nf.nn b9.1.nn (by rw [h90]; exact Nat.zero_le _), cmp_ne hl.nf.nn.ne ne_0, fun h10 => absurd (by rw [hz2]; exact d00) h10, ?_, ?_, fun _ => ?_⟩
      · rw [v3, z3]
        exact clE_of nn_r0 c70_nn (by decide +kernel)
      · rw [v2, z2]
        exact clE_of nn_r0 c12_nn (by decide +kernel)
      · rw [v1, z1]
        exact d00
  · rw [hyg1]
    refine ⟨b6.1.nn.n64, cmp_ne mb.1.nn.ne b6.1.nn.ne, fun h10 => ?_⟩
    have h11 := (cmp_rv mb.1.nn.ne b6.1.nn.ne).2.1.mp h10
    have h12 := e6.2
    rw [hY1] at h12
    clear hat hyl hyk hW hA s4 s5 hE hEZ hLW hAG hle hpos e6 s3 es t0 t1
    grind
  · obtain ⟨K, hK, eK, hK1⟩ := rdv_v (df := encO (elO (agH wd (drv wm) h n) n)) y4 (quv_QB y4)
    have hK0 : 0 < K := by
      refine Nat.pos_of_ne_zero fun h10 => h9 ?_
      rw [eK, h10]
      rfl
    obtain ⟨b, e0, e1, -, e3, e4, -⟩ := hK1 hK0
    have hbb := y4.2 b e1
    exact ⟨b, e0, e1, ⟨cmp_ne hbb.2.1.1.nn.ne c12_nn.ne, e3⟩, ⟨cmp_ne hbb.2.2.2.1.nn.ne (NN.ne (by unfold NN; decide +kernel)), e4⟩⟩
