/-! REAL VALUES 14: isBottled -/
theorem QB.lt {q : UInt64} (h : QB q) : FP.Core.val64 q ≠ .nan := h.1
set_option maxHeartbeats 1000000 in
/-- the bottles that can be drawn behind a draw -/
theorem bot_next {m n T K K' b : Nat} {h h' : Nat → UInt64} {df : Int32} {q : UInt64} (hn : n ≤ 8) (hb : HB m n h) (hq : QB q) (hb' : HB m n h') (hq' : QB (FP.dsub q (botv (nI T)))) (hT0 : 0 < T) (hT : T ≤ 60) (hTK : T ≤ K) (hK6 : K < 1000000) (hbn : b < n) (ho : elO h n = some b) (hdf : nI b = df) (hage : FP.dcmp (h (8 + b)) 4622945017495814144 ≠ some .lt) (hsug : FP.dcmp (h (24 + b)) 4627730092099895296 ≠ some .lt) (hg : FP.dcmp (leB h q b) 0 = some .gt) (hK1 : ((K : Nat) : Rat) ≤ rv (FP.ddiv (leB h q b) 4591870180066957722)) (hK2 : rv (FP.ddiv (leB h q b) 4591870180066957722) < ((K : Nat) : Rat) + 1)
    (hK'6 : K' < 1000000) (hK' : rdv h' n df (FP.dsub q (botv (nI T))) = nI K') (hK'0 : 0 < K' → ∃ b', elO h' n = some b' ∧ b' < n ∧ nI b' = df ∧ FP.dcmp (leB h' (FP.dsub q (botv (nI T))) b') 0 = some .gt ∧ ((K' : Nat) : Rat) ≤ rv (FP.ddiv (leB h' (FP.dsub q (botv (nI T))) b') 4591870180066957722))
    (hcase : (gtz (FP.dsub (h b) (botv (nI T))) ∧ h' b = FP.dsub (h b) (botv (nI T)) ∧ h' (8 + b) = h (8 + b) ∧ h' (24 + b) = h (24 + b) ∧ elO h' n = some b) ∨ (¬ gtz (FP.dsub (h b) (botv (nI T))) ∧ h' b = 0)) : K' ≤ K - T + 1 ∧ K - T ≤ K' + 1 := by
  have et := eta_pos
  have e7 := eta_le 60 1152921504606846976 (by decide) (by decide)
  have hl := (hb.2 b hbn).1
  obtain ⟨a1, a2, a3, a4, a5⟩ := rd_q hb hq hbn hg
  obtain ⟨d1, d2⟩ := rd_d hb hq hbn hg
  obtain ⟨t0, t1, t2⟩ := bot_r (T := T) (by omega)
  obtain ⟨l1, l2, l3⟩ := les_r (a := q) (b := h b) hq.1 hl.nf.nn.ne
  have hle0 := (rv_pos a1.nn).mpr a2
  have hTr := rle hT
  have hT1r := rle (show 1 ≤ T from hT0)
  have n60 : ((60 : Nat) : Rat) = 60 := rfl
  have n1 : ((1 : Nat) : Rat) = 1 := rfl
  rw [n60] at hTr
  rw [n1] at hT1r
  have hle : rv (leB h q b) ≤ rv q ∧ rv (leB h q b) ≤ rv (h b) ∧ (leB h q b = q ∨ leB h q b = h b) := ⟨l1, l2, l3⟩
  -- the quota is above 0
  have hqn : NN q := by
    refine nn_pos hq.1 ?_
    have h1 : rv 0 < rv q := by
      rw [rv_zero]
      have hle1 := hle.1
      clear hK'0 hb hb' hcase
      grind
    have h2 := rv_lt.mp h1
    rw [zv_0] at h2
    exact h2
  have hqf : NF q := by
    have h1 := hq.2.2
    rw [hqn.uz] at h1
    exact nf_le nf_50 (ud_le.mp (by omega))
  have hqb : ud q ≤ 2 ^ 2090 := by
    have h1 := hq.2.2
    rw [hqn.uz] at h1
    exact Nat.le_trans (show ud q ≤ ud 4632233691727265792 by omega) (by decide +kernel)
  constructor
  · -- not too many
    refine Nat.le_of_not_lt fun h9 => ?_
    have hK'p : 0 < K' := by omega
    obtain ⟨b', o1, o2, o3, o4, o5⟩ := hK'0 hK'p
    have hbb : b' = b := by
      rw [← hdf] at o3
      exact (nI_eq (by omega) (by omega)).mp o3
    subst hbb
    have hl' := (hb'.2 b' o2).1
    obtain ⟨m1, m2, m3⟩ := les_r (a := FP.dsub q (botv (nI T))) (b := h' b') hq'.1 hl'.nf.nn.ne
    obtain ⟨c1, c2⟩ := rd_d hb' hq' o2 o4
    have hp := (rd_q hb' hq' o2 o4)
    have hle1 := (rv_pos hp.1.nn).mpr hp.2.1
    have m1 : rv (leB h' (FP.dsub q (botv (nI T))) b') ≤ rv (FP.dsub q (botv (nI T))) := m1
    have m2 : rv (leB h' (FP.dsub q (botv (nI T))) b') ≤ rv (h' b') := m2
    rcases hcase with ⟨g, v, -⟩ | ⟨g, v⟩
    · have hlt : (botv (nI T)).toNat < (h b').toNat := (sub_gt hl.nf t0.1 g).2.2.2
      have s1 := (sub_err hl.nf t0.1 (Nat.le_of_lt hlt) (bd_r hl.bd (by decide))).2.1
      have hq0 : (botv (nI T)).toNat ≤ q.toNat := by
        refine Nat.le_of_not_lt fun h10 => ?_
        have h11 := dsub_nonpos hqf t0.1 (Nat.le_of_lt h10)
        have h12 : rv (FP.dsub q (botv (nI T))) ≤ rv 0 := rv_le.mpr (by rw [zv_0]; exact h11)
        rw [rv_zero] at h12
        clear hK'0 hb hb'
        grind
      have s2 := (sub_err hqf t0.1 hq0 hqb).2.1
      rw [v] at m2
      have hc : ((K + 2 : Nat) : Rat) ≤ ((K' + T : Nat) : Rat) := rle (by omega)
      rw [Rat.natCast_add, Rat.natCast_add] at hc
      have n2 : ((2 : Nat) : Rat) = 2 := rfl
      rw [n2] at hc
      have hmin : rv (leB h' (FP.dsub q (botv (nI T))) b') ≤ (rv (leB h q b') - rv (botv (nI T))) + (rv (leB h q b') - rv (botv (nI T))) / 4503599627370496 := by
        rcases hle.2.2 with e | e
        · rw [e]; exact Rat.le_trans m1 s2
        · rw [e]; exact Rat.le_trans m2 s1
      have b0 := rv_0 t0.1.nn
      clear hK'0 hb hb' m1 m2 m3 s1 s2 l1 l2 l3 hle
      generalize rv (FP.ddiv (leB h' (FP.dsub q (botv (nI T))) b') 4591870180066957722) = r' at *
      generalize rv (FP.ddiv (leB h q b') 4591870180066957722) = r at *
      generalize rv (leB h' (FP.dsub q (botv (nI T))) b') = le' at *
      generalize rv (leB h q b') = le at *
      generalize rv (botv (nI T)) = t at *
      generalize ((K' : Nat) : Rat) = k' at *
      generalize ((K : Nat) : Rat) = k at *
      generalize ((T : Nat) : Rat) = tt at *
      generalize eta = et0 at *
      grind
    · rw [v, rv_zero] at m2
      clear hK'0 hb hb'
      grind
  · -- not too few
    refine Nat.le_of_not_lt fun h9 => ?_
    have hc : ((K' + T + 2 : Nat) : Rat) ≤ ((K : Nat) : Rat) := rle (by omega)
    rw [Rat.natCast_add, Rat.natCast_add] at hc
    have n2 : ((2 : Nat) : Rat) = 2 := rfl
    rw [n2] at hc
    have hk0 : 0 ≤ ((K' : Nat) : Rat) := Rat.natCast_nonneg
    have key : rv (botv (nI T)) + 1 / 10 ≤ rv (leB h q b) := by
      clear hK'0 hb hb' hcase l1 l2 l3 hle
      generalize rv (FP.ddiv (leB h q b) 4591870180066957722) = r at *
      generalize rv (leB h q b) = le at *
      generalize rv (botv (nI T)) = t at *
      generalize ((K' : Nat) : Rat) = k' at *
      generalize ((K : Nat) : Rat) = k at *
      generalize ((T : Nat) : Rat) = tt at *
      generalize eta = et0 at *
      grind
    have hlt : (botv (nI T)).toNat < (h b).toNat := (rv_ltN t0.1.nn hl.nf.nn).mp (by
      have := hle.2.1
      grind)
    have hltq : (botv (nI T)).toNat < q.toNat := (rv_ltN t0.1.nn hqn).mp (by
      have := hle.1
      grind)
    obtain ⟨p1, p2, p3⟩ := dsub_pos hl.nf t0.1 hlt
    have g : gtz (FP.dsub (h b) (botv (nI T))) := (gtz_pos p1.nn).mpr p2
    rcases hcase with ⟨-, v, w1, w2, w3⟩ | ⟨g2, -⟩
    · have s1 := (sub_err hl.nf t0.1 (Nat.le_of_lt hlt) (bd_r hl.bd (by decide))).2.2
      have s2 := (sub_err hqf t0.1 (Nat.le_of_lt hltq) hqb).2.2
      have hl' := (hb'.2 b hbn).1
      obtain ⟨-, -, m3⟩ := les_r (a := FP.dsub q (botv (nI T))) (b := h' b) hq'.1 hl'.nf.nn.ne
      have m3 : leB h' (FP.dsub q (botv (nI T))) b = FP.dsub q (botv (nI T)) ∨ leB h' (FP.dsub q (botv (nI T))) b = h' b := m3
      have hmin : (rv (leB h q b) - rv (botv (nI T))) - 200 / 4503599627370496 ≤ rv (leB h' (FP.dsub q (botv (nI T))) b) := by
        have q50 : rv q ≤ 50 := by
          have r50 : rv 4632233691727265792 = 50 := by
            have h := rv_c (x := 4632233691727265792) 50 1074 0 1 (by unfold NN; decide +kernel) (by decide) (by decide +kernel) (by decide)
            simpa using h
          rw [← r50]
          exact rv_le.mpr (by rw [show zv 4632233691727265792 = (ud 4632233691727265792 : Int) from nf_50.nn.uz]; exact hq.2.2)
        have l200 := hl.r.2
        have tp := rv_0 t0.1.nn
        have x1 := hle.1
        have x2 := hle.2.1
        rcases m3 with e | e
        · rw [e]
          clear hK'0 hb hb' l1 l2 l3 hle
          generalize rv (FP.dsub q (botv (nI T))) = z at *
          grind
        · rw [e, v]
          clear hK'0 hb hb' l1 l2 l3 hle
          generalize rv (FP.dsub (h b) (botv (nI T))) = z at *
          grind
      have hne := leB_ne hb' hq' hbn
      have hg' : FP.dcmp (leB h' (FP.dsub q (botv (nI T))) b) 0 = some .gt := by
        refine (cmp_rv hne ne_0).2.1.mpr ?_
        rw [rv_zero]
        grind
      obtain ⟨x1, x2, x3, x4, x5⟩ := rd_q hb' hq' hbn hg'
      obtain ⟨c1, c2⟩ := rd_d hb' hq' hbn hg'
      obtain ⟨y1, y2, y3, y4⟩ := d2i_v x4 (Nat.lt_of_le_of_lt x5 (by decide +kernel))
      have e : rdv h' n df (FP.dsub q (botv (nI T))) = FP.d2i (FP.ddiv (leB h' (FP.dsub q (botv (nI T))) b) 4591870180066957722) := by
        rw [rdv_some w3, if_pos hdf, w1, w2, if_neg (fun h10 => h10.elim hage hsug), if_pos hg']
      rw [e, y1] at hK'
      have hKe := (nI_eq (by omega) (by omega)).mp hK'
      rw [hKe] at y4
      clear hK'0 hb hb' l1 l2 l3 hle m3 s1 s2 y1 y2 y3 hK'
      generalize rv (FP.ddiv (leB h' (FP.dsub q (botv (nI T))) b) 4591870180066957722) = r' at *
      generalize rv (FP.ddiv (leB h q b) 4591870180066957722) = r at *
      generalize rv (leB h' (FP.dsub q (botv (nI T))) b) = le' at *
      generalize rv (leB h q b) = le at *
      generalize rv (botv (nI T)) = t at *
      generalize ((K' : Nat) : Rat) = k' at *
      generalize ((K : Nat) : Rat) = k at *
      generalize ((T : Nat) : Rat) = tt at *
      generalize eta = et0 at *
      grind
    · exact absurd g g2
set_option maxHeartbeats 1000000 in
theorem botF_of {m n w : Nat} {h : Nat → UInt64} {df : Int32} {q : UInt64} {dk : Nat → Int32} {lam M : Rat} (hn : n ≤ 8) (hb : HB m n h) (hq : QB q) (hE : EZ n h) (hlG : lam ≤ 1 / 72057594037927936) (hW : ∀ j, j < n → (h j).toNat = 0 ∨ lam ≤ rv (h j)) (hM0 : 0 ≤ M) (hA : ∀ j, j < n → rv (h (8 + j)) ≤ M) (hw1 : 1 ≤ w) (hw2 : w ≤ 60) (hn0 : 0 < n) :
    botF n h df q dk (nI w) ∧ EZ n (drH h n df q (nI w)) ∧ (∀ j, j < n → (drH h n df q (nI w) j).toNat = 0 ∨ lam ≤ rv (drH h n df q (nI w) j)) ∧ (∀ j, j < n → rv (drH h n df q (nI w) (8 + j)) ≤ M) ∧ (drH h n df q (nI w) 0).toNat ≤ (h 0).toNat := by
  have et := eta_pos
  have e7 := eta_le 60 1152921504606846976 (by decide) (by decide)
  have hbad : ¬ badR 1 1000 (nI w) := badR_n (lo := 1) (hi := 1000) hw1 (by omega) (by decide)
  obtain ⟨hb', hq'⟩ := dr_HB (df := df) hn hb hq hbad
  have hdw := dw_ok (df := df) hb hq hbad
  obtain ⟨K, hK6, eK, hK⟩ := rdv_v (df := df) hb hq
  have eT := tak_v (n := n) (w := w) (K := K) (by omega) (by omega) eK
  have sb0 := suL_bd hn hb (k := n) (Nat.le_refl n)
  have t0 := suL_a hn hb
  by_cases hK0 : K = 0
  · subst hK0
    rw [Nat.min_eq_right (by omega)] at eT
    obtain ⟨u1, u2, u3⟩ := dr_no (dk := dk) (h := h) (n := n) (df := df) (q := q) (x := nI w) (by rw [eT]; decide)
    unfold botF
    rw [u1, u2, u3, eT, eK]
    have b := bot_r (T := 0) (by decide)
    have z : ((0 : Nat) : Rat) = 0 := rfl
    rw [z] at b
    have ba := bd_add (sb0.mono (show 1085 ≤ 1100 by decide)) (b.1.mono (show 1085 ≤ 1100 by decide)) (by decide)
    have ea := add_err sb0.1 b.1.1 (bd_r ba (by decide))
    have b0 := rv_0 b.1.1.nn
    refine ⟨⟨⟨hbad, (mn_ok (Or.inl rfl) hn hb).1.1, hb.nnr, rd_ok hb hq, hdw⟩, (mn_ok (Or.inl rfl) hn hb).1.1, hb.nnr, rd_ok hb hq, ?_, ⟨b.1.1.nn.n64, ba.1.nn.n64, ?_⟩, by decide, by decide⟩, hE, hW, hA, Nat.le_refl _⟩
    · exact (Int32.add_zero _).symm
    · have b1 := b.2.1
      have hbe : FP.dmul (FP.i2d (nI 0)) 4591870180066957722 = botv (nI 0) := rfl
      rw [hbe]
      refine near_of (ba.mono (by decide)) (sb0.mono (by decide)) ?_ ?_
      · clear hb hb' hK hA hW hE b
        generalize rv (FP.dadd (suL h n) (botv (nI 0))) = x1 at *
        generalize rv (botv (nI 0)) = x2 at *
        generalize rv (suL h n) = x3 at *
        generalize SL h n = S0 at *
        grind
      · clear hb hb' hK hA hW hE b
        generalize rv (FP.dadd (suL h n) (botv (nI 0))) = x1 at *
        generalize rv (botv (nI 0)) = x2 at *
        generalize rv (suL h n) = x3 at *
        generalize SL h n = S0 at *
        grind
  · obtain ⟨b, ho, hbn, hdf, hage, hsug, hg, hK1, hK2⟩ := hK (by omega)
    generalize hTd : min w K = T at eT
    have hT0 : 0 < T := by omega
    have hT60 : T ≤ 60 := by omega
    have hTK : T ≤ K := by omega
    have hp : 0 < takv h n df q (nI w) := by
      rw [eT]
      exact nI_lt (a := 0) (b := T) hT0 (by omega)
    obtain ⟨u1, u2, -⟩ := dr_yes (dk := dk) ho hp
    have hsum := drK_sum (dk := dk) ho hp
    rw [eT] at u1 u2 hsum
    rw [u1] at hb'
    rw [u2] at hq'
    have hl := (hb.2 b hbn).1
    obtain ⟨r0, r1, r2⟩ := bot_r (T := T) (by omega)
    have bT0 := rv_0 r0.1.nn
    obtain ⟨a1, a2, a3, a4, a5⟩ := rd_q hb hq hbn hg
    obtain ⟨d1, d2⟩ := rd_d hb hq hbn hg
    obtain ⟨l1, l2, l3⟩ := les_r (a := q) (b := h b) hq.1 hl.nf.nn.ne
    have l2 : rv (leB h q b) ≤ rv (h b) := l2
    have hTKr := rle hTK
    have hT1r := rle (show 1 ≤ T from hT0)
    have hTr := rle hT60
    have n60 : ((60 : Nat) : Rat) = 60 := rfl
    have n1 : ((1 : Nat) : Rat) = 1 := rfl
    rw [n60] at hTr
    rw [n1] at hT1r
    -- what is taken is hardly more than there is
    have hsm : rv (botv (nI T)) ≤ rv (h b) + 1 / 4398046511104 := by
      have l200 := hl.r.2
      clear hb hb' hK hA hW hE
      generalize rv (FP.ddiv (leB h q b) 4591870180066957722) = r at *
      generalize rv (leB h q b) = le at *
      generalize rv (botv (nI T)) = t at *
      generalize ((K : Nat) : Rat) = k at *
      generalize ((T : Nat) : Rat) = tt at *
      generalize eta = et0 at *
      grind
    have h16 : (4589168020290535424 : UInt64).toNat ≤ (botv (nI T)).toNat := by
      refine (rv_leN (by unfold NN; decide +kernel) r0.1.nn).mp ?_
      rw [sixt_v.1]
      clear hb hb' hK hA hW hE
      grind
    have hud16 : 2 ^ 1070 ≤ ud (botv (nI T)) := by
      rw [← sixt_v.2]
      exact ud_of_le h16
    -- the table behind it
    have hcs : (gtz (FP.dsub (h b) (botv (nI T))) ∧ tkH h b (botv (nI T)) = hset h b (FP.dsub (h b) (botv (nI T))) (h (8 + b)) (h (16 + b)) (h (24 + b))) ∨ (¬ gtz (FP.dsub (h b) (botv (nI T))) ∧ tkH h b (botv (nI T)) = hset h b 0 0 0 0) := by
      by_cases c : gtz (FP.dsub (h b) (botv (nI T)))
      · exact Or.inl ⟨c, if_pos c⟩
      · exact Or.inr ⟨c, if_neg c⟩
    have hval : (gtz (FP.dsub (h b) (botv (nI T))) ∧ (botv (nI T)).toNat < (h b).toNat) ∨ (¬ gtz (FP.dsub (h b) (botv (nI T))) ∧ rv (h b) ≤ rv (botv (nI T))) := by
      by_cases c : (botv (nI T)).toNat < (h b).toNat
      · obtain ⟨p1, p2, p3⟩ := dsub_pos hl.nf r0.1 c
        exact Or.inl ⟨(gtz_pos p1.nn).mpr p2, c⟩
      · refine Or.inr ⟨fun h9 => c (sub_gt hl.nf r0.1 h9).2.2.2, (rv_leN hl.nf.nn r0.1.nn).mpr (Nat.le_of_not_lt c)⟩
    obtain ⟨K', hK'6, eK', hK'⟩ := rdv_v (df := df) hb' hq'
    have sb1 := suL_bd hn hb' (k := n) (Nat.le_refl n)
    have t1 := suL_a hn hb'
    have ba := bd_add (sb1.mono (show 1085 ≤ 1100 by decide)) (r0.mono (show 1085 ≤ 1100 by decide)) (by decide)
    have ea := add_err sb1.1 r0.1 (bd_r ba (by decide))
    have hbot10 : rv (botv (nI T)) ≤ 10 := by
      clear hb hb' hK hA hW hE
      grind
    have hnx := bot_next (h' := tkH h b (botv (nI T))) hn hb hq hb' hq' hT0 hT60 hTK hK6 hbn ho hdf hage hsug hg hK1 hK2 hK'6 eK' (fun h9 => by
      obtain ⟨b', o1, o2, o3, o4, o5, o6, o7, o8⟩ := hK' h9
      exact ⟨b', o1, o2, o3, o6, o7⟩) (by
      rcases hcs with ⟨c, e⟩ | ⟨c, e⟩
      · refine Or.inl ⟨c, ?_⟩
        rw [e]
        have v := hset_b (h := h) (b := b) (li := FP.dsub (h b) (botv (nI T))) (ag := h (8 + b)) (ac := h (16 + b)) (su := h (24 + b))
        refine ⟨v.1, v.2.1, v.2.2.2, ?_⟩
        rw [← ho]
        refine (elO_congr n (fun i hi => ?_)).symm
        by_cases ci : i = b
        · subst ci
          rw [v.1, v.2.1]
          refine ⟨⟨fun _ => c, fun _ => (gtz_pos hl.nf.nn).mpr ?_⟩, rfl⟩
          have := (sub_gt hl.nf r0.1 c).2.2.2
          omega
        · rw [hset_ne (by omega) (by omega) ci, hset_ne1 (by omega) (by omega) ci (Or.inl rfl)]
          exact ⟨Iff.rfl, rfl⟩
      · refine Or.inr ⟨c, ?_⟩
        rw [e]
        exact hset_b.1)
    have hcl : ∀ j, j < n → j ≠ b → tkH h b (botv (nI T)) j = h j ∧ tkH h b (botv (nI T)) (8 + j) = h (8 + j) ∧ tkH h b (botv (nI T)) (16 + j) = h (16 + j) ∧ tkH h b (botv (nI T)) (24 + j) = h (24 + j) := fun j hj c => by
      rcases hcs with ⟨-, e⟩ | ⟨-, e⟩
      · rw [e]
        exact ⟨hset_ne (by omega) (by omega) c, hset_ne1 (by omega) (by omega) c (Or.inl rfl), hset_ne1 (by omega) (by omega) c (Or.inr (Or.inl rfl)), hset_ne1 (by omega) (by omega) c (Or.inr (Or.inr rfl))⟩
      · rw [e]
        exact ⟨hset_ne (by omega) (by omega) c, hset_ne1 (by omega) (by omega) c (Or.inl rfl), hset_ne1 (by omega) (by omega) c (Or.inr (Or.inl rfl)), hset_ne1 (by omega) (by omega) c (Or.inr (Or.inr rfl))⟩
    have hbe : FP.dmul (FP.i2d (nI T)) 4591870180066957722 = botv (nI T) := rfl
    unfold botF
    rw [u1, u2, eT, hsum, eK, eK', hbe, pk_sub hTK]
    -- the litres
    have hSL : SL (tkH h b (botv (nI T))) n + rv (botv (nI T)) ≤ SL h n + 1 / 2199023255552 ∧ SL h n - 1 / 2199023255552 ≤ SL (tkH h b (botv (nI T))) n + rv (botv (nI T)) := by
      have l200 := hl.r
      rcases hcs with ⟨c, e⟩ | ⟨c, e⟩
      · rcases hval with ⟨-, hlt⟩ | ⟨c2, -⟩
        · have s := (sub_err hl.nf r0.1 (Nat.le_of_lt hlt) (bd_r hl.bd (by decide))).2
          rw [e, SL_set n hn, if_pos hbn]
          clear hb hb' hK hK' hA hW hE hnx hcl ea t0 t1
          generalize rv (FP.dsub (h b) (botv (nI T))) = z at *
          generalize rv (botv (nI T)) = t at *
          generalize rv (h b) = l at *
          generalize SL h n = S at *
          constructor <;> grind
        · exact absurd c c2
      · rcases hval with ⟨c2, -⟩ | ⟨-, hle⟩
        · exact absurd c2 c
        · rw [e, SL_set n hn, if_pos hbn, rv_zero]
          clear hb hb' hK hK' hA hW hE hnx hcl ea t0 t1
          constructor <;> grind
    refine ⟨⟨⟨hbad, (mn_ok (Or.inl rfl) hn hb).1.1, hb.nnr, rd_ok hb hq, hdw⟩, (mn_ok (Or.inl rfl) hn hb').1.1, hb'.nnr, rd_ok hb' hq', rfl, ⟨r0.1.nn.n64, ba.1.nn.n64, near_of (ba.mono (by decide)) (sb0.mono (by decide)) ?_ ?_⟩, ?_, ?_⟩, ?_, ?_, ?_, ?_⟩
    · clear hb hb' hK hK' hA hW hE hnx hcl hcs hval
      generalize rv (FP.dadd (suL (tkH h b (botv (nI T))) n) (botv (nI T))) = x1 at *
      generalize rv (suL (tkH h b (botv (nI T))) n) = x2 at *
      generalize rv (suL h n) = x3 at *
      generalize rv (botv (nI T)) = t at *
      generalize SL (tkH h b (botv (nI T))) n = S1 at *
      generalize SL h n = S0 at *
      grind
    · clear hb hb' hK hK' hA hW hE hnx hcl hcs hval
      generalize rv (FP.dadd (suL (tkH h b (botv (nI T))) n) (botv (nI T))) = x1 at *
      generalize rv (suL (tkH h b (botv (nI T))) n) = x2 at *
      generalize rv (suL h n) = x3 at *
      generalize rv (botv (nI T)) = t at *
      generalize SL (tkH h b (botv (nI T))) n = S1 at *
      generalize SL h n = S0 at *
      grind
    · rw [nI_1]
      exact nI_nlt hnx.1 (by omega)
    · by_cases c : K - T = 0
      · rw [c]
        intro h9
        rw [Int32.lt_iff_toInt_lt, nI_toInt (by omega)] at h9
        have : (nI 0 - 1 : Int32).toInt = -1 := by decide
        omega
      · rw [show nI (K - T) - 1 = nI (K - T - 1) from pk_sub (a := K - T) (b := 1) (by omega)]
        exact nI_nlt (by have := hnx.2; omega) (by omega)
    · intro j hj hz0
      by_cases c : j = b
      · subst c
        rcases hcs with ⟨c, e⟩ | ⟨c, e⟩
        · rw [e, hset_b.1] at hz0
          have := (sub_gt hl.nf r0.1 c).2.1
          omega
        · rw [e]
          exact ⟨hset_b.2.1, hset_b.2.2.1, hset_b.2.2.2⟩
      · obtain ⟨q0, q1, q2, q3⟩ := hcl j hj c
        rw [q0] at hz0
        rw [q1, q2, q3]
        exact hE j hj hz0
    · intro j hj
      by_cases c : j = b
      · subst c
        rcases hcs with ⟨c, e⟩ | ⟨c, e⟩
        · rw [e, hset_b.1]
          refine Or.inr (Rat.le_trans hlG ?_)
          rw [← cG_v]
          exact sub_gran hl.nf r0.1 hud16 (sub_gt hl.nf r0.1 c).2.2.2
        · rw [e, hset_b.1]
          exact Or.inl rfl
      · rw [(hcl j hj c).1]
        exact hW j hj
    · intro j hj
      by_cases c : j = b
      · subst c
        rcases hcs with ⟨c, e⟩ | ⟨c, e⟩
        · rw [e, hset_b.2.1]
          exact hA j hj
        · rw [e, hset_b.2.1, rv_zero]
          exact hM0
      · rw [(hcl j hj c).2.1]
        exact hA j hj
    · by_cases c : b = 0
      · subst c
        rcases hcs with ⟨c, e⟩ | ⟨c, e⟩
        · rw [e, hset_b.1]
          exact (sub_gt hl.nf r0.1 c).2.2.1
        · rw [e, hset_b.1]
          exact Nat.zero_le _
      · rw [(hcl 0 hn0 (fun h9 => c h9.symm)).1]
        exact Nat.le_refl _
