/-! the reference: its calls, second half (laid by wip/whole/prog/x3d.py) -/
theorem thI_y {n : Nat} {x : Int32} (g : badI n x) : thI n x = 1 := if_pos g
theorem thI_n {n : Nat} {x : Int32} (g : ¬ badI n x) : thI n x = 0 := if_neg g
theorem badI_nat {n : Nat} (hn : n ≤ 8) {x : Int32} (g : ¬ badI n x) : ∃ j : Nat, j < n ∧ x = nI j :=
  badI_not (by omega) (fun h => g (Or.inl h)) (Int32.lt_iff_toInt_lt.mpr (Int.not_le.mp (fun h => g (Or.inr (Int32.le_iff_toInt_le.mpr h)))))
theorem i32_nle {a b : Int32} (h : ¬ a ≤ b) : b < a := by
  rw [Int32.le_iff_toInt_le] at h
  rw [Int32.lt_iff_toInt_lt]
  omega
theorem i32_le {a b : Int32} (h : a ≤ b) : ¬ b < a := by
  rw [Int32.le_iff_toInt_le] at h
  rw [Int32.lt_iff_toInt_lt]
  omega
theorem lt18_25 {a : UInt64} (ha : NN a) (h : FP.dcmp a 4625759767262920704 = some .lt) : FP.dcmp a 4627730092099895296 = some .lt := by
  have h1 := ((cmp_nn ha (show NN 4625759767262920704 by unfold NN; decide +kernel)).1).mp h
  refine ((cmp_nn ha (show NN 4627730092099895296 by unfold NN; decide +kernel)).1).mpr (Nat.lt_trans h1 (by decide +kernel))
theorem tk_of1 {h : Nat → UInt64} {b : Nat} (hb : b < 8) {less : UInt64} (g : FP.dcmp (FP.dsub (h b) less) 0 = some .gt) : vf_upd h b (FP.dsub (h b) less) = tkH h b less := by
  unfold tkH
  rw [if_pos g]
  exact hset_of hb vu_s (vu_n (by omega)) (vu_n (by omega)) (vu_n (by omega)) (fun k h1 _ _ _ => vu_n h1)
theorem tk_of2 {h : Nat → UInt64} {b : Nat} (hb : b < 8) {less X : UInt64} (g : FP.dcmp (FP.dsub (h b) less) 0 ≠ some .gt) : hset (vf_upd h b X) b 0 0 0 0 = tkH h b less := by
  unfold tkH
  rw [if_neg g]
  refine hset_of hb (if_pos rfl) ?_ ?_ ?_ (fun k h1 h2 h3 h4 => ?_) <;> unfold hset
  · rw [if_neg (by omega), if_pos rfl]
  · rw [if_neg (by omega), if_neg (by omega), if_pos rfl]
  · rw [if_neg (by omega), if_neg (by omega), if_neg (by omega), if_pos rfl]
  · rw [if_neg h1, if_neg h2, if_neg h3, if_neg h4]; exact vu_n h1
theorem knd0 {a : UInt64} (h : FP.dcmp a 4625759767262920704 = some .lt) : kndN a = 0 := if_pos h
theorem knd1 {a : UInt64} (h : FP.dcmp a 4625759767262920704 ≠ some .lt) (h2 : FP.dcmp a 4627730092099895296 = some .lt) : kndN a = 1 := by unfold kndN; rw [if_neg h, if_pos h2]
theorem knd2 {a : UInt64} (h : FP.dcmp a 4625759767262920704 ≠ some .lt) (h2 : FP.dcmp a 4627730092099895296 ≠ some .lt) : kndN a = 2 := by unfold kndN; rw [if_neg h, if_neg h2]

set_option maxHeartbeats 4000000 in
set_option maxRecDepth 100000 in
theorem metX3_draw (l : Launch) (D : va_G) (sz : Nat) (y aw az ah ak : Nat) (cI cD : ClassId) (n : Nat) (hn : n ≤ 8) (wm ys : Int32) (q : UInt64) (qf th : Int32) (wd zs : Nat → Int32) (h kp : Nat → UInt64) (dk : Nat → Int32) (x : Int32) (hN : NNr n h) (hr9 : rdok h n q) (hr8 : rdM h n qf q) (hdk : ¬ badR 1 1000 x → dwok h n qf q x) : Met l yX3_draw wsX3_draw { frames := 3, cells := 0, slots := 0, locals := 66 } (Pm D [(cI, .int), (cD, .double)] [.ref y, .int x] (modW y aw az ah ak cI cD (nI n) wm ys q qf (dk 0) (dk 1) (dk 2) th wd zs h kp) sz) (va_Qi (fun (r : Int32) (_ : Unit) => r = if thR 1 1000 x = 0 then takv h n qf q x else 0) (Bm D [(cI, .int), (cD, .double)] (va_A (modW y aw az ah ak cI cD (nI n) wm ys q qf (dk 0) (dk 1) (dk 2) th wd zs h kp) sz) (modW y aw az ah ak cI cD (nI n) wm ys (if thR 1 1000 x = 0 then drQ h n qf q x else q) qf (if thR 1 1000 x = 0 then drK dk h n qf q x 0 else dk 0) (if thR 1 1000 x = 0 then drK dk h n qf q x 1 else dk 1) (if thR 1 1000 x = 0 then drK dk h n qf q x 2 else dk 2) (thR 1 1000 x) wd zs (if thR 1 1000 x = 0 then drH h n qf q x else h) kp)) (va_A (modW y aw az ah ak cI cD (nI n) wm ys q qf (dk 0) (dk 1) (dk 2) th wd zs h kp) sz)) 0 0 (va_A (modW y aw az ah ak cI cD (nI n) wm ys q qf (dk 0) (dk 1) (dk 2) th wd zs h kp) sz) := by
  refine Met.ofW (cc := cX3_draw) (maxL := 7) (ret := (some .int)) (by decide) rfl ?_
  intro p e s m args below meth c s₁ B hml hv
  obtain ⟨rfl, hsz, hP, hK, hD0⟩ := hv
  have hx := B.exec
  have hb := B.bytes
  have hr := B.returns
  have hts := atoms_spec (ws := wsX3_draw) B.pre
  have hown : s.vm.findClass RX3 = some m.cls := findClass_of_methodNamed B.named
  have hlocks := B.notSynchronized
  subst hsz
  have hD := hD0.self (sz := s.heap.size)
  generalize hAe : va_A (modW y aw az ah ak cI cD (nI n) wm ys q qf (dk 0) (dk 1) (dk 2) th wd zs h kp) s.heap.size = A at hD ⊢
  have hA : ∀ q : Nat, s.heap.size ≤ q → A q := fun q h => by rw [← hAe]; exact Or.inr h
  refine kW_H (fun H hH => ?_)
  have hP : va_P D vwCl (modW y aw az ah ak cI cD (nI n) wm ys q qf (dk 0) (dk 1) (dk 2) th wd zs h kp) H := by rw [hH]; exact hP
  have hS : va_S A s.heap H [] := by rw [hH]; exact va_S.rf
  have hl := lv_entry ([.ref y, .int x]) (n := 7) (Nat.le_of_ble_eq_true rfl)
  rw [lg_entry_eq]
  generalize (lg_sl ([.ref y, .int x]) ++ List.replicate (7 - (lg_sl ([.ref y, .int x])).length) Slot.unset).toArray = ls at hl ⊢
  have hl : lv_has ls 7 [(0, .ref y), (1, .int x)] := hl
  refine lv_aload_n hx hb dX3_draw_0 rfl (lv_at hl 0 rfl) ?_
  refine lv_iload_n hx hb dX3_draw_1 rfl (lv_at hl 1 rfl) ?_
  refine lv_iconst (v := 1) hx hb dX3_draw_2 (by decide) ?_
  refine lv_icmp_lt (tgt := 17) hx hb dX3_draw_3 (by decide) (fun c3 => ?_) (fun c3 => ?_)
  · refine lv_iconst (v := 1) hx hb dX3_draw_17 (by decide) ?_
    refine va_put (D := D) (ci := 3) (v := .int 1) (ty := .int) (C := RX3) (T := TX3) (N := 13) hx hb hts (by decide +kernel) tyX3 tyX3_ok nmX3 hown hK hP hD hS (0) rfl rfl 12 (by decide) (hts (.fieldLink RX3 30 "VinegarLoftModel" "thrown" "I") (by decide +kernel)) (fun _ h9 => h9) rfl (by decide +kernel) rfl rfl (Nat.le_of_ble_eq_true rfl) dX3_draw_18 (fun H locs hP hD hS => ?_)
    have hP : va_P D vwCl (modW y aw az ah ak cI cD (nI n) wm ys q qf (dk 0) (dk 1) (dk 2) 1 wd zs h kp) H := hP
    have hD : va_D A (modW y aw az ah ak cI cD (nI n) wm ys q qf (dk 0) (dk 1) (dk 2) 1 wd zs h kp) := hD
    refine lv_aload_n hx hb dX3_draw_21 rfl (lv_at hl 0 rfl) ?_
    refine va_get (D := D) (ci := 3) (v := .int 1) (C := RX3) (T := TX3) (N := 13) hx hb hts (by decide +kernel) hown hK hP (0) rfl rfl 12 (by decide) (hts (.fieldLink RX3 30 "VinegarLoftModel" "thrown" "I") (by decide +kernel)) (fun _ h9 => h9) rfl dX3_draw_22 ?_
    refine lv_if_eq (tgt := 30) hx hb dX3_draw_25 (by decide) (fun c25 => absurd c25 (by decide)) (fun c25 => ?_)
    refine lv_iconst (v := 0) hx hb dX3_draw_28 (by decide) ?_
    have hP : va_P D vwCl (modW y aw az ah ak cI cD (nI n) wm ys (if thR 1 1000 x = 0 then drQ h n qf q x else q) qf (if thR 1 1000 x = 0 then drK dk h n qf q x 0 else dk 0) (if thR 1 1000 x = 0 then drK dk h n qf q x 1 else dk 1) (if thR 1 1000 x = 0 then drK dk h n qf q x 2 else dk 2) (thR 1 1000 x) wd zs (if thR 1 1000 x = 0 then drH h n qf q x else h) kp) H := by rw [show thR 1 1000 x = 1 from if_pos (Or.inl c3), if_neg (by decide), if_neg (by decide), if_neg (by decide), if_neg (by decide), if_neg (by decide)]; exact hP
    have hD : va_D A (modW y aw az ah ak cI cD (nI n) wm ys (if thR 1 1000 x = 0 then drQ h n qf q x else q) qf (if thR 1 1000 x = 0 then drK dk h n qf q x 0 else dk 0) (if thR 1 1000 x = 0 then drK dk h n qf q x 1 else dk 1) (if thR 1 1000 x = 0 then drK dk h n qf q x 2 else dk 2) (thR 1 1000 x) wd zs (if thR 1 1000 x = 0 then drH h n qf q x else h) kp) := by rw [show thR 1 1000 x = 1 from if_pos (Or.inl c3), if_neg (by decide), if_neg (by decide), if_neg (by decide), if_neg (by decide), if_neg (by decide)]; exact hD
    exact W.iret hx hb hr (fun t ht hW => ⟨⟨_, (), rfl, by rw [show thR 1 1000 x = 1 from if_pos (Or.inl c3), if_neg (by decide)], by rw [ht]; exact hP, va_K.moved hW.alike hK, hD⟩, hS.F ht⟩) hS.2.2 dX3_draw_29
  · refine lv_iload_n hx hb dX3_draw_6 rfl (lv_at hl 1 rfl) ?_
    refine lv_sipush (v := 1000) hx hb dX3_draw_7 (by decide) ?_
    refine lv_icmp_gt (tgt := 17) hx hb dX3_draw_10 (by decide) (fun c10 => ?_) (fun c10 => ?_)
    · refine lv_iconst (v := 1) hx hb dX3_draw_17 (by decide) ?_
      refine va_put (D := D) (ci := 3) (v := .int 1) (ty := .int) (C := RX3) (T := TX3) (N := 13) hx hb hts (by decide +kernel) tyX3 tyX3_ok nmX3 hown hK hP hD hS (0) rfl rfl 12 (by decide) (hts (.fieldLink RX3 30 "VinegarLoftModel" "thrown" "I") (by decide +kernel)) (fun _ h9 => h9) rfl (by decide +kernel) rfl rfl (Nat.le_of_ble_eq_true rfl) dX3_draw_18 (fun H locs hP hD hS => ?_)
      have hP : va_P D vwCl (modW y aw az ah ak cI cD (nI n) wm ys q qf (dk 0) (dk 1) (dk 2) 1 wd zs h kp) H := hP
      have hD : va_D A (modW y aw az ah ak cI cD (nI n) wm ys q qf (dk 0) (dk 1) (dk 2) 1 wd zs h kp) := hD
      refine lv_aload_n hx hb dX3_draw_21 rfl (lv_at hl 0 rfl) ?_
      refine va_get (D := D) (ci := 3) (v := .int 1) (C := RX3) (T := TX3) (N := 13) hx hb hts (by decide +kernel) hown hK hP (0) rfl rfl 12 (by decide) (hts (.fieldLink RX3 30 "VinegarLoftModel" "thrown" "I") (by decide +kernel)) (fun _ h9 => h9) rfl dX3_draw_22 ?_
      refine lv_if_eq (tgt := 30) hx hb dX3_draw_25 (by decide) (fun c25 => absurd c25 (by decide)) (fun c25 => ?_)
      refine lv_iconst (v := 0) hx hb dX3_draw_28 (by decide) ?_
      have hP : va_P D vwCl (modW y aw az ah ak cI cD (nI n) wm ys (if thR 1 1000 x = 0 then drQ h n qf q x else q) qf (if thR 1 1000 x = 0 then drK dk h n qf q x 0 else dk 0) (if thR 1 1000 x = 0 then drK dk h n qf q x 1 else dk 1) (if thR 1 1000 x = 0 then drK dk h n qf q x 2 else dk 2) (thR 1 1000 x) wd zs (if thR 1 1000 x = 0 then drH h n qf q x else h) kp) H := by rw [show thR 1 1000 x = 1 from if_pos (Or.inr c10), if_neg (by decide), if_neg (by decide), if_neg (by decide), if_neg (by decide), if_neg (by decide)]; exact hP
      have hD : va_D A (modW y aw az ah ak cI cD (nI n) wm ys (if thR 1 1000 x = 0 then drQ h n qf q x else q) qf (if thR 1 1000 x = 0 then drK dk h n qf q x 0 else dk 0) (if thR 1 1000 x = 0 then drK dk h n qf q x 1 else dk 1) (if thR 1 1000 x = 0 then drK dk h n qf q x 2 else dk 2) (thR 1 1000 x) wd zs (if thR 1 1000 x = 0 then drH h n qf q x else h) kp) := by rw [show thR 1 1000 x = 1 from if_pos (Or.inr c10), if_neg (by decide), if_neg (by decide), if_neg (by decide), if_neg (by decide), if_neg (by decide)]; exact hD
      exact W.iret hx hb hr (fun t ht hW => ⟨⟨_, (), rfl, by rw [show thR 1 1000 x = 1 from if_pos (Or.inr c10), if_neg (by decide)], by rw [ht]; exact hP, va_K.moved hW.alike hK, hD⟩, hS.F ht⟩) hS.2.2 dX3_draw_29
    · refine lv_iconst (v := 0) hx hb dX3_draw_13 (by decide) ?_
      refine lv_goto (tgt := 18) hx hb dX3_draw_14 (by decide) ?_
      refine va_put (D := D) (ci := 3) (v := .int 0) (ty := .int) (C := RX3) (T := TX3) (N := 13) hx hb hts (by decide +kernel) tyX3 tyX3_ok nmX3 hown hK hP hD hS (0) rfl rfl 12 (by decide) (hts (.fieldLink RX3 30 "VinegarLoftModel" "thrown" "I") (by decide +kernel)) (fun _ h9 => h9) rfl (by decide +kernel) rfl rfl (Nat.le_of_ble_eq_true rfl) dX3_draw_18 (fun H locs hP hD hS => ?_)
      have hP : va_P D vwCl (modW y aw az ah ak cI cD (nI n) wm ys q qf (dk 0) (dk 1) (dk 2) 0 wd zs h kp) H := hP
      have hD : va_D A (modW y aw az ah ak cI cD (nI n) wm ys q qf (dk 0) (dk 1) (dk 2) 0 wd zs h kp) := hD
      refine lv_aload_n hx hb dX3_draw_21 rfl (lv_at hl 0 rfl) ?_
      refine va_get (D := D) (ci := 3) (v := .int 0) (C := RX3) (T := TX3) (N := 13) hx hb hts (by decide +kernel) hown hK hP (0) rfl rfl 12 (by decide) (hts (.fieldLink RX3 30 "VinegarLoftModel" "thrown" "I") (by decide +kernel)) (fun _ h9 => h9) rfl dX3_draw_22 ?_
      refine lv_if_eq (tgt := 30) hx hb dX3_draw_25 (by decide) (fun c25 => ?_) (fun c25 => absurd rfl c25)
      refine lv_aload_n hx hb dX3_draw_30 rfl (lv_at hl 0 rfl) ?_
      refine kr_i (W.runV (As := []) (rest := []) ⟨hx, hb, hml, hown, hts⟩ (metX3_bottlesNow l D y aw az ah ak cI cD n (by omega) wm ys q qf (dk 0) (dk 1) (dk 2) 0 wd zs h kp hN hr9 hr8) (cwV 0 hts gX3_draw_X3_bottlesNow rfl rfl rfl (by decide +kernel) ⟨Nat.le_of_ble_eq_true rfl, Nat.le_of_ble_eq_true rfl⟩) (prV 3 0 RX3 TX3 13 rfl rfl hP hK) rfl rfl hl.1 rfl (lv_room (Nat.le_of_ble_eq_true rfl)) dX3_draw_31 ⟨Nat.le_of_ble_eq_true rfl, Nat.le_of_ble_eq_true rfl⟩) ?_
      refine lv_istore_n (lv' := [(2, .int (rdv h n qf q)), (0, .ref y), (1, .int x)]) hx hb dX3_draw_34 rfl hl (by decide) rfl (fun ls hl => ?_)
      refine lv_iload_n hx hb dX3_draw_35 rfl (lv_at hl 2 rfl) ?_
      refine lv_iload_n hx hb dX3_draw_36 rfl (lv_at hl 0 rfl) ?_
      refine lv_icmp_ge (tgt := 44) hx hb dX3_draw_37 (by decide) (fun c37 => ?_) (fun c37 => ?_)
      · refine lv_iload_n hx hb dX3_draw_44 rfl (lv_at hl 0 rfl) ?_
        refine ki_eq (show rdv h n qf q = takv h n qf q x from by unfold takv; rw [if_neg (i32_le c37)]) ?_
        refine lv_istore_n (lv' := [(3, .int (takv h n qf q x)), (2, .int (rdv h n qf q)), (0, .ref y), (1, .int x)]) hx hb dX3_draw_45 rfl hl (by decide) rfl (fun ls hl => ?_)
        refine lv_iload_n hx hb dX3_draw_46 rfl (lv_at hl 0 rfl) ?_
        refine lv_if_le (tgt := 201) hx hb dX3_draw_47 (by decide) (fun c47 => ?_) (fun c47 => ?_)
        · refine lv_iload_n hx hb dX3_draw_201 rfl (lv_at hl 0 rfl) ?_
          have hP : va_P D vwCl (modW y aw az ah ak cI cD (nI n) wm ys (if thR 1 1000 x = 0 then drQ h n qf q x else q) qf (if thR 1 1000 x = 0 then drK dk h n qf q x 0 else dk 0) (if thR 1 1000 x = 0 then drK dk h n qf q x 1 else dk 1) (if thR 1 1000 x = 0 then drK dk h n qf q x 2 else dk 2) (thR 1 1000 x) wd zs (if thR 1 1000 x = 0 then drH h n qf q x else h) kp) H := by rw [show thR 1 1000 x = 0 from if_neg (fun h9 => h9.elim c3 c10), if_pos rfl, if_pos rfl, if_pos rfl, if_pos rfl, if_pos rfl, (dr_no (dk := dk) c47).1, (dr_no (h := h) (n := n) (df := qf) (q := q) (x := x) (dk := dk) c47).2.1, (dr_no (dk := dk) c47).2.2]; exact hP
          have hD : va_D A (modW y aw az ah ak cI cD (nI n) wm ys (if thR 1 1000 x = 0 then drQ h n qf q x else q) qf (if thR 1 1000 x = 0 then drK dk h n qf q x 0 else dk 0) (if thR 1 1000 x = 0 then drK dk h n qf q x 1 else dk 1) (if thR 1 1000 x = 0 then drK dk h n qf q x 2 else dk 2) (thR 1 1000 x) wd zs (if thR 1 1000 x = 0 then drH h n qf q x else h) kp) := by rw [show thR 1 1000 x = 0 from if_neg (fun h9 => h9.elim c3 c10), if_pos rfl, if_pos rfl, if_pos rfl, if_pos rfl, if_pos rfl, (dr_no (dk := dk) c47).1, (dr_no (h := h) (n := n) (df := qf) (q := q) (x := x) (dk := dk) c47).2.1, (dr_no (dk := dk) c47).2.2]; exact hD
          exact W.iret hx hb hr (fun t ht hW => ⟨⟨_, (), rfl, by rw [show thR 1 1000 x = 0 from if_neg (fun h9 => h9.elim c3 c10), if_pos rfl], by rw [ht]; exact hP, va_K.moved hW.alike hK, hD⟩, hS.F ht⟩) hS.2.2 dX3_draw_202
        · have h0 : 0 < takv h n qf q x := i32_pos c47
          obtain ⟨b, ho, hqf⟩ := rdv_pos (tak_pos h0)
          have hbn : b < n := elO_lt h n b ho
          obtain ⟨d0, d1, d2, d3⟩ := hdk (fun h9 => h9.elim c3 c10) b ho h0
          refine lv_aload_n hx hb dX3_draw_50 rfl (lv_at hl 2 rfl) ?_
          refine va_get (D := D) (ci := 3) (v := .int qf) (C := RX3) (T := TX3) (N := 13) hx hb hts (by decide +kernel) hown hK hP (0) rfl rfl 8 (by decide) (hts (.fieldLink RX3 27 "VinegarLoftModel" "quotaFrom" "I") (by decide +kernel)) (fun _ h9 => h9) rfl dX3_draw_51 ?_
          refine ki_eq (hqf.symm : qf = nI b) ?_
          refine lv_istore (lv' := [(4, .int (nI b)), (3, .int (takv h n qf q x)), (2, .int (rdv h n qf q)), (0, .ref y), (1, .int x)]) hx hb dX3_draw_54 hl (by decide) rfl (fun ls hl => ?_)
          refine lv_aload_n hx hb dX3_draw_56 rfl (lv_at hl 3 rfl) ?_
          refine va_get (D := D) (ci := 3) (v := .ref ah) (C := RX3) (T := TX3) (N := 13) hx hb hts (by decide +kernel) hown hK hP (0) rfl rfl 2 (by decide) (hts (.fieldLink RX3 16 "VinegarLoftModel" "holds" "[D") (by decide +kernel)) (fun _ h9 => h9) rfl dX3_draw_57 ?_
          refine lv_bipush (v := 8) hx hb dX3_draw_60 (by decide) ?_
          refine lv_iload hx hb dX3_draw_62 (lv_at hl 0 rfl) ?_
          refine lv_iadd hx hb dX3_draw_64 ?_
          refine kx_dald hx hb hK hP 3 1 rfl rfl (j := 8 + b) (ixc 8 b) (show 8 + b < 32 by omega) (by decide) dX3_draw_65 ?_
          refine lv_dstore (lv' := [(5, .double (h (8 + b))), (4, .int (nI b)), (3, .int (takv h n qf q x)), (2, .int (rdv h n qf q)), (0, .ref y), (1, .int x)]) hx hb dX3_draw_66 hl (by decide) rfl (fun ls hl => ?_)
          refine lv_aload_n hx hb dX3_draw_68 rfl (lv_at hl 4 rfl) ?_
          refine lv_dup hx hb dX3_draw_69 rfl ?_
          refine va_get (D := D) (ci := 3) (v := .int (dk 0)) (C := RX3) (T := TX3) (N := 13) hx hb hts (by decide +kernel) hown hK hP (0) rfl rfl 9 (by decide) (hts (.fieldLink RX3 126 "VinegarLoftModel" "young" "I") (by decide +kernel)) (fun _ h9 => h9) rfl dX3_draw_70 ?_
          refine lv_dload hx hb dX3_draw_73 (lv_at hl 0 rfl) ?_
          refine lv_ldc2d hx hb hown (hts (.constantDouble RX3 129 4625759767262920704) (by decide +kernel)) dX3_draw_75 ?_
          refine kd_ge (tgt := 86) hx hb dX3_draw_78 dX3_draw_79 (by decide) (cmp_ne  (hN b hbn).2.ne (NN.ne (by unfold NN; decide +kernel))) (fun c78 => ?_) (fun c78 => ?_)
          · refine lv_iconst (v := 0) hx hb dX3_draw_86 (by decide) ?_
            refine lv_iadd hx hb dX3_draw_87 ?_
            refine va_put (D := D) (ci := 3) (v := .int ((dk 0) + 0)) (ty := .int) (C := RX3) (T := TX3) (N := 13) hx hb hts (by decide +kernel) tyX3 tyX3_ok nmX3 hown hK hP hD hS (0) rfl rfl 9 (by decide) (hts (.fieldLink RX3 126 "VinegarLoftModel" "young" "I") (by decide +kernel)) (fun _ h9 => h9) rfl (by decide +kernel) rfl rfl (Nat.le_of_ble_eq_true rfl) dX3_draw_88 (fun H locs hP hD hS => ?_)
            have hP : va_P D vwCl (modW y aw az ah ak cI cD (nI n) wm ys q qf ((dk 0) + 0) (dk 1) (dk 2) 0 wd zs h kp) H := hP
            have hD : va_D A (modW y aw az ah ak cI cD (nI n) wm ys q qf ((dk 0) + 0) (dk 1) (dk 2) 0 wd zs h kp) := hD
            refine lv_aload_n hx hb dX3_draw_91 rfl (lv_at hl 4 rfl) ?_
            refine lv_dup hx hb dX3_draw_92 rfl ?_
            refine va_get (D := D) (ci := 3) (v := .int (dk 1)) (C := RX3) (T := TX3) (N := 13) hx hb hts (by decide +kernel) hown hK hP (0) rfl rfl 10 (by decide) (hts (.fieldLink RX3 131 "VinegarLoftModel" "ripe" "I") (by decide +kernel)) (fun _ h9 => h9) rfl dX3_draw_93 ?_
            refine lv_dload hx hb dX3_draw_96 (lv_at hl 0 rfl) ?_
            refine lv_ldc2d hx hb hown (hts (.constantDouble RX3 129 4625759767262920704) (by decide +kernel)) dX3_draw_98 ?_
            refine kd_lt (tgt := 118) hx hb dX3_draw_101 dX3_draw_102 (by decide) (cmp_ne  (hN b hbn).2.ne (NN.ne (by unfold NN; decide +kernel))) (fun c101 => absurd c101 c78) (fun c101 => ?_)
            refine lv_dload hx hb dX3_draw_105 (lv_at hl 0 rfl) ?_
            refine lv_ldc2d hx hb hown (hts (.constantDouble RX3 108 4627730092099895296) (by decide +kernel)) dX3_draw_107 ?_
            refine kd_ge (tgt := 118) hx hb dX3_draw_110 dX3_draw_111 (by decide) (cmp_ne  (hN b hbn).2.ne (NN.ne (by unfold NN; decide +kernel))) (fun c110 => ?_) (fun c110 => ?_)
            · refine lv_iconst (v := 0) hx hb dX3_draw_118 (by decide) ?_
              refine lv_iadd hx hb dX3_draw_119 ?_
              refine va_put (D := D) (ci := 3) (v := .int ((dk 1) + 0)) (ty := .int) (C := RX3) (T := TX3) (N := 13) hx hb hts (by decide +kernel) tyX3 tyX3_ok nmX3 hown hK hP hD hS (0) rfl rfl 10 (by decide) (hts (.fieldLink RX3 131 "VinegarLoftModel" "ripe" "I") (by decide +kernel)) (fun _ h9 => h9) rfl (by decide +kernel) rfl rfl (Nat.le_of_ble_eq_true rfl) dX3_draw_120 (fun H locs hP hD hS => ?_)
              have hP : va_P D vwCl (modW y aw az ah ak cI cD (nI n) wm ys q qf ((dk 0) + 0) ((dk 1) + 0) (dk 2) 0 wd zs h kp) H := hP
              have hD : va_D A (modW y aw az ah ak cI cD (nI n) wm ys q qf ((dk 0) + 0) ((dk 1) + 0) (dk 2) 0 wd zs h kp) := hD
              refine lv_aload_n hx hb dX3_draw_123 rfl (lv_at hl 4 rfl) ?_
              refine lv_dup hx hb dX3_draw_124 rfl ?_
              refine va_get (D := D) (ci := 3) (v := .int (dk 2)) (C := RX3) (T := TX3) (N := 13) hx hb hts (by decide +kernel) hown hK hP (0) rfl rfl 11 (by decide) (hts (.fieldLink RX3 134 "VinegarLoftModel" "old" "I") (by decide +kernel)) (fun _ h9 => h9) rfl dX3_draw_125 ?_
              refine lv_dload hx hb dX3_draw_128 (lv_at hl 0 rfl) ?_
              refine lv_ldc2d hx hb hown (hts (.constantDouble RX3 108 4627730092099895296) (by decide +kernel)) dX3_draw_130 ?_
              refine kd_lt (tgt := 141) hx hb dX3_draw_133 dX3_draw_134 (by decide) (cmp_ne  (hN b hbn).2.ne (NN.ne (by unfold NN; decide +kernel))) (fun c133 => absurd c133 c110) (fun c133 => ?_)
              refine lv_iload_n hx hb dX3_draw_137 rfl (lv_at hl 2 rfl) ?_
              refine lv_goto (tgt := 142) hx hb dX3_draw_138 (by decide) ?_
              refine lv_iadd hx hb dX3_draw_142 ?_
              refine va_put (D := D) (ci := 3) (v := .int ((dk 2) + (takv h n qf q x))) (ty := .int) (C := RX3) (T := TX3) (N := 13) hx hb hts (by decide +kernel) tyX3 tyX3_ok nmX3 hown hK hP hD hS (0) rfl rfl 11 (by decide) (hts (.fieldLink RX3 134 "VinegarLoftModel" "old" "I") (by decide +kernel)) (fun _ h9 => h9) rfl (by decide +kernel) rfl rfl (Nat.le_of_ble_eq_true rfl) dX3_draw_143 (fun H locs hP hD hS => ?_)
              have hP : va_P D vwCl (modW y aw az ah ak cI cD (nI n) wm ys q qf ((dk 0) + 0) ((dk 1) + 0) ((dk 2) + (takv h n qf q x)) 0 wd zs h kp) H := hP
              have hD : va_D A (modW y aw az ah ak cI cD (nI n) wm ys q qf ((dk 0) + 0) ((dk 1) + 0) ((dk 2) + (takv h n qf q x)) 0 wd zs h kp) := hD
              refine lv_aload_n hx hb dX3_draw_146 rfl (lv_at hl 4 rfl) ?_
              refine lv_aload_n hx hb dX3_draw_147 rfl (lv_at hl 4 rfl) ?_
              refine va_get (D := D) (ci := 3) (v := .double q) (C := RX3) (T := TX3) (N := 13) hx hb hts (by decide +kernel) hown hK hP (0) rfl rfl 7 (by decide) (hts (.fieldLink RX3 104 "VinegarLoftModel" "quota" "D") (by decide +kernel)) (fun _ h9 => h9) rfl dX3_draw_148 ?_
              refine lv_iload_n hx hb dX3_draw_151 rfl (lv_at hl 2 rfl) ?_
              refine lv_i2d hx hb dX3_draw_152 ?_
              refine lv_ldc2d hx hb hown (hts (.constantDouble RX3 84 4591870180066957722) (by decide +kernel)) dX3_draw_153 ?_
              refine lv_dmul hx hb dX3_draw_156 d0 ?_
              refine kd_eq (show (FP.dmul (FP.i2d (takv h n qf q x)) 4591870180066957722) = botv (takv h n qf q x) from rfl) ?_
              refine lv_dsub hx hb dX3_draw_157 d1 ?_
              refine va_put (D := D) (ci := 3) (v := .double (FP.dsub q (botv (takv h n qf q x)))) (ty := .double) (C := RX3) (T := TX3) (N := 13) hx hb hts (by decide +kernel) tyX3 tyX3_ok nmX3 hown hK hP hD hS (0) rfl rfl 7 (by decide) (hts (.fieldLink RX3 104 "VinegarLoftModel" "quota" "D") (by decide +kernel)) (fun _ h9 => h9) rfl (by decide +kernel) rfl rfl (Nat.le_of_ble_eq_true rfl) dX3_draw_158 (fun H locs hP hD hS => ?_)
              have hP : va_P D vwCl (modW y aw az ah ak cI cD (nI n) wm ys (FP.dsub q (botv (takv h n qf q x))) qf ((dk 0) + 0) ((dk 1) + 0) ((dk 2) + (takv h n qf q x)) 0 wd zs h kp) H := hP
              have hD : va_D A (modW y aw az ah ak cI cD (nI n) wm ys (FP.dsub q (botv (takv h n qf q x))) qf ((dk 0) + 0) ((dk 1) + 0) ((dk 2) + (takv h n qf q x)) 0 wd zs h kp) := hD
              refine lv_aload_n hx hb dX3_draw_161 rfl (lv_at hl 4 rfl) ?_
              refine va_get (D := D) (ci := 3) (v := .ref ah) (C := RX3) (T := TX3) (N := 13) hx hb hts (by decide +kernel) hown hK hP (0) rfl rfl 2 (by decide) (hts (.fieldLink RX3 16 "VinegarLoftModel" "holds" "[D") (by decide +kernel)) (fun _ h9 => h9) rfl dX3_draw_162 ?_
              refine lv_iconst (v := 0) hx hb dX3_draw_165 (by decide) ?_
              refine lv_iload hx hb dX3_draw_166 (lv_at hl 1 rfl) ?_
              refine lv_iadd hx hb dX3_draw_168 ?_
              refine lv_aload_n hx hb dX3_draw_169 rfl (lv_at hl 4 rfl) ?_
              refine va_get (D := D) (ci := 3) (v := .ref ah) (C := RX3) (T := TX3) (N := 13) hx hb hts (by decide +kernel) hown hK hP (0) rfl rfl 2 (by decide) (hts (.fieldLink RX3 16 "VinegarLoftModel" "holds" "[D") (by decide +kernel)) (fun _ h9 => h9) rfl dX3_draw_170 ?_
              refine lv_iconst (v := 0) hx hb dX3_draw_173 (by decide) ?_
              refine lv_iload hx hb dX3_draw_174 (lv_at hl 1 rfl) ?_
              refine lv_iadd hx hb dX3_draw_176 ?_
              refine kx_dald hx hb hK hP 3 1 rfl rfl (j := b) (ix0 b) (show b < 32 by omega) (by decide) dX3_draw_177 ?_
              refine lv_iload_n hx hb dX3_draw_178 rfl (lv_at hl 2 rfl) ?_
              refine lv_i2d hx hb dX3_draw_179 ?_
              refine lv_ldc2d hx hb hown (hts (.constantDouble RX3 84 4591870180066957722) (by decide +kernel)) dX3_draw_180 ?_
              refine lv_dmul hx hb dX3_draw_183 d0 ?_
              refine kd_eq (show (FP.dmul (FP.i2d (takv h n qf q x)) 4591870180066957722) = botv (takv h n qf q x) from rfl) ?_
              refine lv_dsub hx hb dX3_draw_184 d2 ?_
              refine kx_dast hx hb hK hP hD hS 3 1 rfl rfl (j := b) (ix0 b) (show b < 32 by omega) (by decide) dX3_draw_185 (fun H locs hP hD hS => ?_)
              have hP : va_P D vwCl (modW y aw az ah ak cI cD (nI n) wm ys (FP.dsub q (botv (takv h n qf q x))) qf ((dk 0) + 0) ((dk 1) + 0) ((dk 2) + (takv h n qf q x)) 0 wd zs (vf_upd h b (FP.dsub (h b) (botv (takv h n qf q x)))) kp) H := hP
              have hD : va_D A (modW y aw az ah ak cI cD (nI n) wm ys (FP.dsub q (botv (takv h n qf q x))) qf ((dk 0) + 0) ((dk 1) + 0) ((dk 2) + (takv h n qf q x)) 0 wd zs (vf_upd h b (FP.dsub (h b) (botv (takv h n qf q x)))) kp) := hD
              refine lv_aload_n hx hb dX3_draw_186 rfl (lv_at hl 4 rfl) ?_
              refine lv_iload hx hb dX3_draw_187 (lv_at hl 1 rfl) ?_
              refine kr_i (W.runV (As := [.int (nI b)]) (rest := []) ⟨hx, hb, hml, hown, hts⟩ (metX3_isEmpty l D y aw az ah ak cI cD n (by omega) wm ys (FP.dsub q (botv (takv h n qf q x))) qf ((dk 0) + 0) ((dk 1) + 0) ((dk 2) + (takv h n qf q x)) 0 wd zs (vf_upd h b (FP.dsub (h b) (botv (takv h n qf q x)))) kp b (by omega) (show FP.dcmp ((vf_upd h b (FP.dsub (h b) (botv (takv h n qf q x)))) b) 0 ≠ none by rw [vu_s]; exact d3)) (cwV 1 hts gX3_draw_X3_isEmpty rfl rfl rfl (by decide +kernel) ⟨Nat.le_of_ble_eq_true rfl, Nat.le_of_ble_eq_true rfl⟩) (prV 3 0 RX3 TX3 13 rfl rfl hP hK) rfl rfl hl.1 rfl (lv_room (Nat.le_of_ble_eq_true rfl)) dX3_draw_189 ⟨Nat.le_of_ble_eq_true rfl, Nat.le_of_ble_eq_true rfl⟩) ?_
              refine ki_eq (show emp ((vf_upd h b (FP.dsub (h b) (botv (takv h n qf q x)))) b) = emp (FP.dsub (h b) (botv (takv h n qf q x))) from by rw [vu_s]) ?_
              refine lv_if_eq (tgt := 201) hx hb dX3_draw_192 (by decide) (fun c192 => ?_) (fun c192 => ?_)
              · refine lv_iload_n hx hb dX3_draw_201 rfl (lv_at hl 2 rfl) ?_
                have hP : va_P D vwCl (modW y aw az ah ak cI cD (nI n) wm ys (if thR 1 1000 x = 0 then drQ h n qf q x else q) qf (if thR 1 1000 x = 0 then drK dk h n qf q x 0 else dk 0) (if thR 1 1000 x = 0 then drK dk h n qf q x 1 else dk 1) (if thR 1 1000 x = 0 then drK dk h n qf q x 2 else dk 2) (thR 1 1000 x) wd zs (if thR 1 1000 x = 0 then drH h n qf q x else h) kp) H := by rw [show thR 1 1000 x = 0 from if_neg (fun h9 => h9.elim c3 c10), if_pos rfl, if_pos rfl, if_pos rfl, if_pos rfl, if_pos rfl, (dr_yes (dk := dk) ho h0).1, (dr_yes (dk := dk) ho h0).2.1, show drK dk h n qf q x 0 = dk 0 + 0 from by rw [(dr_yes (dk := dk) ho h0).2.2, knd2 c78 c110, i32_add0]; rfl, show drK dk h n qf q x 1 = dk 1 + 0 from by rw [(dr_yes (dk := dk) ho h0).2.2, knd2 c78 c110, i32_add0]; rfl, show drK dk h n qf q x 2 = dk 2 + (takv h n qf q x) from by rw [(dr_yes (dk := dk) ho h0).2.2, knd2 c78 c110]; rfl, show tkH h b (botv (takv h n qf q x)) = vf_upd h b (FP.dsub (h b) (botv (takv h n qf q x))) from (tk_of1 (show b < 8 by omega) (emp0.mp c192)).symm]; exact hP
                have hD : va_D A (modW y aw az ah ak cI cD (nI n) wm ys (if thR 1 1000 x = 0 then drQ h n qf q x else q) qf (if thR 1 1000 x = 0 then drK dk h n qf q x 0 else dk 0) (if thR 1 1000 x = 0 then drK dk h n qf q x 1 else dk 1) (if thR 1 1000 x = 0 then drK dk h n qf q x 2 else dk 2) (thR 1 1000 x) wd zs (if thR 1 1000 x = 0 then drH h n qf q x else h) kp) := by rw [show thR 1 1000 x = 0 from if_neg (fun h9 => h9.elim c3 c10), if_pos rfl, if_pos rfl, if_pos rfl, if_pos rfl, if_pos rfl, (dr_yes (dk := dk) ho h0).1, (dr_yes (dk := dk) ho h0).2.1, show drK dk h n qf q x 0 = dk 0 + 0 from by rw [(dr_yes (dk := dk) ho h0).2.2, knd2 c78 c110, i32_add0]; rfl, show drK dk h n qf q x 1 = dk 1 + 0 from by rw [(dr_yes (dk := dk) ho h0).2.2, knd2 c78 c110, i32_add0]; rfl, show drK dk h n qf q x 2 = dk 2 + (takv h n qf q x) from by rw [(dr_yes (dk := dk) ho h0).2.2, knd2 c78 c110]; rfl, show tkH h b (botv (takv h n qf q x)) = vf_upd h b (FP.dsub (h b) (botv (takv h n qf q x))) from (tk_of1 (show b < 8 by omega) (emp0.mp c192)).symm]; exact hD
                exact W.iret hx hb hr (fun t ht hW => ⟨⟨_, (), rfl, by rw [show thR 1 1000 x = 0 from if_neg (fun h9 => h9.elim c3 c10), if_pos rfl], by rw [ht]; exact hP, va_K.moved hW.alike hK, hD⟩, hS.F ht⟩) hS.2.2 dX3_draw_202
              · refine lv_aload_n hx hb dX3_draw_195 rfl (lv_at hl 4 rfl) ?_
                refine lv_iload hx hb dX3_draw_196 (lv_at hl 1 rfl) ?_
                refine kw_v (va_runV (As := [.int (nI b)]) (rest := []) ⟨hx, hb, hml, hown, hts⟩ (metX3_empties l D H.size y aw az ah ak cI cD n (by omega) wm ys (FP.dsub q (botv (takv h n qf q x))) qf ((dk 0) + 0) ((dk 1) + 0) ((dk 2) + (takv h n qf q x)) 0 wd zs (vf_upd h b (FP.dsub (h b) (botv (takv h n qf q x)))) kp b (by omega)) (cwV 1 hts gX3_draw_X3_empties rfl rfl rfl (by decide +kernel) ⟨Nat.le_of_ble_eq_true rfl, Nat.le_of_ble_eq_true rfl⟩) (pmV 3 0 RX3 TX3 13 rfl rfl hP hK hD) rfl rfl hl.1 rfl (lv_room (Nat.le_of_ble_eq_true rfl)) dX3_draw_198 ⟨Nat.le_of_ble_eq_true rfl, Nat.le_of_ble_eq_true rfl⟩) hP hD hS hA (fun H locs hP hD hS => ?_)
                have hP : va_P D vwCl (modW y aw az ah ak cI cD (nI n) wm ys (FP.dsub q (botv (takv h n qf q x))) qf ((dk 0) + 0) ((dk 1) + 0) ((dk 2) + (takv h n qf q x)) 0 wd zs (hset (vf_upd h b (FP.dsub (h b) (botv (takv h n qf q x)))) b 0 0 0 0) kp) H := hP
                have hD : va_D A (modW y aw az ah ak cI cD (nI n) wm ys (FP.dsub q (botv (takv h n qf q x))) qf ((dk 0) + 0) ((dk 1) + 0) ((dk 2) + (takv h n qf q x)) 0 wd zs (hset (vf_upd h b (FP.dsub (h b) (botv (takv h n qf q x)))) b 0 0 0 0) kp) := hD
                refine lv_iload_n hx hb dX3_draw_201 rfl (lv_at hl 2 rfl) ?_
                have hP : va_P D vwCl (modW y aw az ah ak cI cD (nI n) wm ys (if thR 1 1000 x = 0 then drQ h n qf q x else q) qf (if thR 1 1000 x = 0 then drK dk h n qf q x 0 else dk 0) (if thR 1 1000 x = 0 then drK dk h n qf q x 1 else dk 1) (if thR 1 1000 x = 0 then drK dk h n qf q x 2 else dk 2) (thR 1 1000 x) wd zs (if thR 1 1000 x = 0 then drH h n qf q x else h) kp) H := by rw [show thR 1 1000 x = 0 from if_neg (fun h9 => h9.elim c3 c10), if_pos rfl, if_pos rfl, if_pos rfl, if_pos rfl, if_pos rfl, (dr_yes (dk := dk) ho h0).1, (dr_yes (dk := dk) ho h0).2.1, show drK dk h n qf q x 0 = dk 0 + 0 from by rw [(dr_yes (dk := dk) ho h0).2.2, knd2 c78 c110, i32_add0]; rfl, show drK dk h n qf q x 1 = dk 1 + 0 from by rw [(dr_yes (dk := dk) ho h0).2.2, knd2 c78 c110, i32_add0]; rfl, show drK dk h n qf q x 2 = dk 2 + (takv h n qf q x) from by rw [(dr_yes (dk := dk) ho h0).2.2, knd2 c78 c110]; rfl, show tkH h b (botv (takv h n qf q x)) = hset (vf_upd h b (FP.dsub (h b) (botv (takv h n qf q x)))) b 0 0 0 0 from (tk_of2 (show b < 8 by omega) (fun h9 => c192 (emp0.mpr h9))).symm]; exact hP
                have hD : va_D A (modW y aw az ah ak cI cD (nI n) wm ys (if thR 1 1000 x = 0 then drQ h n qf q x else q) qf (if thR 1 1000 x = 0 then drK dk h n qf q x 0 else dk 0) (if thR 1 1000 x = 0 then drK dk h n qf q x 1 else dk 1) (if thR 1 1000 x = 0 then drK dk h n qf q x 2 else dk 2) (thR 1 1000 x) wd zs (if thR 1 1000 x = 0 then drH h n qf q x else h) kp) := by rw [show thR 1 1000 x = 0 from if_neg (fun h9 => h9.elim c3 c10), if_pos rfl, if_pos rfl, if_pos rfl, if_pos rfl, if_pos rfl, (dr_yes (dk := dk) ho h0).1, (dr_yes (dk := dk) ho h0).2.1, show drK dk h n qf q x 0 = dk 0 + 0 from by rw [(dr_yes (dk := dk) ho h0).2.2, knd2 c78 c110, i32_add0]; rfl, show drK dk h n qf q x 1 = dk 1 + 0 from by rw [(dr_yes (dk := dk) ho h0).2.2, knd2 c78 c110, i32_add0]; rfl, show drK dk h n qf q x 2 = dk 2 + (takv h n qf q x) from by rw [(dr_yes (dk := dk) ho h0).2.2, knd2 c78 c110]; rfl, show tkH h b (botv (takv h n qf q x)) = hset (vf_upd h b (FP.dsub (h b) (botv (takv h n qf q x)))) b 0 0 0 0 from (tk_of2 (show b < 8 by omega) (fun h9 => c192 (emp0.mpr h9))).symm]; exact hD
                exact W.iret hx hb hr (fun t ht hW => ⟨⟨_, (), rfl, by rw [show thR 1 1000 x = 0 from if_neg (fun h9 => h9.elim c3 c10), if_pos rfl], by rw [ht]; exact hP, va_K.moved hW.alike hK, hD⟩, hS.F ht⟩) hS.2.2 dX3_draw_202
            · refine lv_iload_n hx hb dX3_draw_114 rfl (lv_at hl 2 rfl) ?_
              refine lv_goto (tgt := 119) hx hb dX3_draw_115 (by decide) ?_
              refine lv_iadd hx hb dX3_draw_119 ?_
              refine va_put (D := D) (ci := 3) (v := .int ((dk 1) + (takv h n qf q x))) (ty := .int) (C := RX3) (T := TX3) (N := 13) hx hb hts (by decide +kernel) tyX3 tyX3_ok nmX3 hown hK hP hD hS (0) rfl rfl 10 (by decide) (hts (.fieldLink RX3 131 "VinegarLoftModel" "ripe" "I") (by decide +kernel)) (fun _ h9 => h9) rfl (by decide +kernel) rfl rfl (Nat.le_of_ble_eq_true rfl) dX3_draw_120 (fun H locs hP hD hS => ?_)
              have hP : va_P D vwCl (modW y aw az ah ak cI cD (nI n) wm ys q qf ((dk 0) + 0) ((dk 1) + (takv h n qf q x)) (dk 2) 0 wd zs h kp) H := hP
              have hD : va_D A (modW y aw az ah ak cI cD (nI n) wm ys q qf ((dk 0) + 0) ((dk 1) + (takv h n qf q x)) (dk 2) 0 wd zs h kp) := hD
              refine lv_aload_n hx hb dX3_draw_123 rfl (lv_at hl 4 rfl) ?_
              refine lv_dup hx hb dX3_draw_124 rfl ?_
              refine va_get (D := D) (ci := 3) (v := .int (dk 2)) (C := RX3) (T := TX3) (N := 13) hx hb hts (by decide +kernel) hown hK hP (0) rfl rfl 11 (by decide) (hts (.fieldLink RX3 134 "VinegarLoftModel" "old" "I") (by decide +kernel)) (fun _ h9 => h9) rfl dX3_draw_125 ?_
              refine lv_dload hx hb dX3_draw_128 (lv_at hl 0 rfl) ?_
              refine lv_ldc2d hx hb hown (hts (.constantDouble RX3 108 4627730092099895296) (by decide +kernel)) dX3_draw_130 ?_
              refine kd_lt (tgt := 141) hx hb dX3_draw_133 dX3_draw_134 (by decide) (cmp_ne  (hN b hbn).2.ne (NN.ne (by unfold NN; decide +kernel))) (fun c133 => ?_) (fun c133 => absurd c110 c133)
              refine lv_iconst (v := 0) hx hb dX3_draw_141 (by decide) ?_
              refine lv_iadd hx hb dX3_draw_142 ?_
              refine va_put (D := D) (ci := 3) (v := .int ((dk 2) + 0)) (ty := .int) (C := RX3) (T := TX3) (N := 13) hx hb hts (by decide +kernel) tyX3 tyX3_ok nmX3 hown hK hP hD hS (0) rfl rfl 11 (by decide) (hts (.fieldLink RX3 134 "VinegarLoftModel" "old" "I") (by decide +kernel)) (fun _ h9 => h9) rfl (by decide +kernel) rfl rfl (Nat.le_of_ble_eq_true rfl) dX3_draw_143 (fun H locs hP hD hS => ?_)
              have hP : va_P D vwCl (modW y aw az ah ak cI cD (nI n) wm ys q qf ((dk 0) + 0) ((dk 1) + (takv h n qf q x)) ((dk 2) + 0) 0 wd zs h kp) H := hP
              have hD : va_D A (modW y aw az ah ak cI cD (nI n) wm ys q qf ((dk 0) + 0) ((dk 1) + (takv h n qf q x)) ((dk 2) + 0) 0 wd zs h kp) := hD
              refine lv_aload_n hx hb dX3_draw_146 rfl (lv_at hl 4 rfl) ?_
              refine lv_aload_n hx hb dX3_draw_147 rfl (lv_at hl 4 rfl) ?_
              refine va_get (D := D) (ci := 3) (v := .double q) (C := RX3) (T := TX3) (N := 13) hx hb hts (by decide +kernel) hown hK hP (0) rfl rfl 7 (by decide) (hts (.fieldLink RX3 104 "VinegarLoftModel" "quota" "D") (by decide +kernel)) (fun _ h9 => h9) rfl dX3_draw_148 ?_
              refine lv_iload_n hx hb dX3_draw_151 rfl (lv_at hl 2 rfl) ?_
              refine lv_i2d hx hb dX3_draw_152 ?_
              refine lv_ldc2d hx hb hown (hts (.constantDouble RX3 84 4591870180066957722) (by decide +kernel)) dX3_draw_153 ?_
              refine lv_dmul hx hb dX3_draw_156 d0 ?_
              refine kd_eq (show (FP.dmul (FP.i2d (takv h n qf q x)) 4591870180066957722) = botv (takv h n qf q x) from rfl) ?_
              refine lv_dsub hx hb dX3_draw_157 d1 ?_
              refine va_put (D := D) (ci := 3) (v := .double (FP.dsub q (botv (takv h n qf q x)))) (ty := .double) (C := RX3) (T := TX3) (N := 13) hx hb hts (by decide +kernel) tyX3 tyX3_ok nmX3 hown hK hP hD hS (0) rfl rfl 7 (by decide) (hts (.fieldLink RX3 104 "VinegarLoftModel" "quota" "D") (by decide +kernel)) (fun _ h9 => h9) rfl (by decide +kernel) rfl rfl (Nat.le_of_ble_eq_true rfl) dX3_draw_158 (fun H locs hP hD hS => ?_)
              have hP : va_P D vwCl (modW y aw az ah ak cI cD (nI n) wm ys (FP.dsub q (botv (takv h n qf q x))) qf ((dk 0) + 0) ((dk 1) + (takv h n qf q x)) ((dk 2) + 0) 0 wd zs h kp) H := hP
              have hD : va_D A (modW y aw az ah ak cI cD (nI n) wm ys (FP.dsub q (botv (takv h n qf q x))) qf ((dk 0) + 0) ((dk 1) + (takv h n qf q x)) ((dk 2) + 0) 0 wd zs h kp) := hD
              refine lv_aload_n hx hb dX3_draw_161 rfl (lv_at hl 4 rfl) ?_
              refine va_get (D := D) (ci := 3) (v := .ref ah) (C := RX3) (T := TX3) (N := 13) hx hb hts (by decide +kernel) hown hK hP (0) rfl rfl 2 (by decide) (hts (.fieldLink RX3 16 "VinegarLoftModel" "holds" "[D") (by decide +kernel)) (fun _ h9 => h9) rfl dX3_draw_162 ?_
              refine lv_iconst (v := 0) hx hb dX3_draw_165 (by decide) ?_
              refine lv_iload hx hb dX3_draw_166 (lv_at hl 1 rfl) ?_
              refine lv_iadd hx hb dX3_draw_168 ?_
              refine lv_aload_n hx hb dX3_draw_169 rfl (lv_at hl 4 rfl) ?_
              refine va_get (D := D) (ci := 3) (v := .ref ah) (C := RX3) (T := TX3) (N := 13) hx hb hts (by decide +kernel) hown hK hP (0) rfl rfl 2 (by decide) (hts (.fieldLink RX3 16 "VinegarLoftModel" "holds" "[D") (by decide +kernel)) (fun _ h9 => h9) rfl dX3_draw_170 ?_
              refine lv_iconst (v := 0) hx hb dX3_draw_173 (by decide) ?_
              refine lv_iload hx hb dX3_draw_174 (lv_at hl 1 rfl) ?_
              refine lv_iadd hx hb dX3_draw_176 ?_
              refine kx_dald hx hb hK hP 3 1 rfl rfl (j := b) (ix0 b) (show b < 32 by omega) (by decide) dX3_draw_177 ?_
              refine lv_iload_n hx hb dX3_draw_178 rfl (lv_at hl 2 rfl) ?_
              refine lv_i2d hx hb dX3_draw_179 ?_
              refine lv_ldc2d hx hb hown (hts (.constantDouble RX3 84 4591870180066957722) (by decide +kernel)) dX3_draw_180 ?_
              refine lv_dmul hx hb dX3_draw_183 d0 ?_
              refine kd_eq (show (FP.dmul (FP.i2d (takv h n qf q x)) 4591870180066957722) = botv (takv h n qf q x) from rfl) ?_
              refine lv_dsub hx hb dX3_draw_184 d2 ?_
              refine kx_dast hx hb hK hP hD hS 3 1 rfl rfl (j := b) (ix0 b) (show b < 32 by omega) (by decide) dX3_draw_185 (fun H locs hP hD hS => ?_)
              have hP : va_P D vwCl (modW y aw az ah ak cI cD (nI n) wm ys (FP.dsub q (botv (takv h n qf q x))) qf ((dk 0) + 0) ((dk 1) + (takv h n qf q x)) ((dk 2) + 0) 0 wd zs (vf_upd h b (FP.dsub (h b) (botv (takv h n qf q x)))) kp) H := hP
              have hD : va_D A (modW y aw az ah ak cI cD (nI n) wm ys (FP.dsub q (botv (takv h n qf q x))) qf ((dk 0) + 0) ((dk 1) + (takv h n qf q x)) ((dk 2) + 0) 0 wd zs (vf_upd h b (FP.dsub (h b) (botv (takv h n qf q x)))) kp) := hD
              refine lv_aload_n hx hb dX3_draw_186 rfl (lv_at hl 4 rfl) ?_
              refine lv_iload hx hb dX3_draw_187 (lv_at hl 1 rfl) ?_
              refine kr_i (W.runV (As := [.int (nI b)]) (rest := []) ⟨hx, hb, hml, hown, hts⟩ (metX3_isEmpty l D y aw az ah ak cI cD n (by omega) wm ys (FP.dsub q (botv (takv h n qf q x))) qf ((dk 0) + 0) ((dk 1) + (takv h n qf q x)) ((dk 2) + 0) 0 wd zs (vf_upd h b (FP.dsub (h b) (botv (takv h n qf q x)))) kp b (by omega) (show FP.dcmp ((vf_upd h b (FP.dsub (h b) (botv (takv h n qf q x)))) b) 0 ≠ none by rw [vu_s]; exact d3)) (cwV 1 hts gX3_draw_X3_isEmpty rfl rfl rfl (by decide +kernel) ⟨Nat.le_of_ble_eq_true rfl, Nat.le_of_ble_eq_true rfl⟩) (prV 3 0 RX3 TX3 13 rfl rfl hP hK) rfl rfl hl.1 rfl (lv_room (Nat.le_of_ble_eq_true rfl)) dX3_draw_189 ⟨Nat.le_of_ble_eq_true rfl, Nat.le_of_ble_eq_true rfl⟩) ?_
              refine ki_eq (show emp ((vf_upd h b (FP.dsub (h b) (botv (takv h n qf q x)))) b) = emp (FP.dsub (h b) (botv (takv h n qf q x))) from by rw [vu_s]) ?_
              refine lv_if_eq (tgt := 201) hx hb dX3_draw_192 (by decide) (fun c192 => ?_) (fun c192 => ?_)
              · refine lv_iload_n hx hb dX3_draw_201 rfl (lv_at hl 2 rfl) ?_
                have hP : va_P D vwCl (modW y aw az ah ak cI cD (nI n) wm ys (if thR 1 1000 x = 0 then drQ h n qf q x else q) qf (if thR 1 1000 x = 0 then drK dk h n qf q x 0 else dk 0) (if thR 1 1000 x = 0 then drK dk h n qf q x 1 else dk 1) (if thR 1 1000 x = 0 then drK dk h n qf q x 2 else dk 2) (thR 1 1000 x) wd zs (if thR 1 1000 x = 0 then drH h n qf q x else h) kp) H := by rw [show thR 1 1000 x = 0 from if_neg (fun h9 => h9.elim c3 c10), if_pos rfl, if_pos rfl, if_pos rfl, if_pos rfl, if_pos rfl, (dr_yes (dk := dk) ho h0).1, (dr_yes (dk := dk) ho h0).2.1, show drK dk h n qf q x 0 = dk 0 + 0 from by rw [(dr_yes (dk := dk) ho h0).2.2, knd1 c78 c110, i32_add0]; rfl, show drK dk h n qf q x 1 = dk 1 + (takv h n qf q x) from by rw [(dr_yes (dk := dk) ho h0).2.2, knd1 c78 c110]; rfl, show drK dk h n qf q x 2 = dk 2 + 0 from by rw [(dr_yes (dk := dk) ho h0).2.2, knd1 c78 c110, i32_add0]; rfl, show tkH h b (botv (takv h n qf q x)) = vf_upd h b (FP.dsub (h b) (botv (takv h n qf q x))) from (tk_of1 (show b < 8 by omega) (emp0.mp c192)).symm]; exact hP
                have hD : va_D A (modW y aw az ah ak cI cD (nI n) wm ys (if thR 1 1000 x = 0 then drQ h n qf q x else q) qf (if thR 1 1000 x = 0 then drK dk h n qf q x 0 else dk 0) (if thR 1 1000 x = 0 then drK dk h n qf q x 1 else dk 1) (if thR 1 1000 x = 0 then drK dk h n qf q x 2 else dk 2) (thR 1 1000 x) wd zs (if thR 1 1000 x = 0 then drH h n qf q x else h) kp) := by rw [show thR 1 1000 x = 0 from if_neg (fun h9 => h9.elim c3 c10), if_pos rfl, if_pos rfl, if_pos rfl, if_pos rfl, if_pos rfl, (dr_yes (dk := dk) ho h0).1, (dr_yes (dk := dk) ho h0).2.1, show drK dk h n qf q x 0 = dk 0 + 0 from by rw [(dr_yes (dk := dk) ho h0).2.2, knd1 c78 c110, i32_add0]; rfl, show drK dk h n qf q x 1 = dk 1 + (takv h n qf q x) from by rw [(dr_yes (dk := dk) ho h0).2.2, knd1 c78 c110]; rfl, show drK dk h n qf q x 2 = dk 2 + 0 from by rw [(dr_yes (dk := dk) ho h0).2.2, knd1 c78 c110, i32_add0]; rfl, show tkH h b (botv (takv h n qf q x)) = vf_upd h b (FP.dsub (h b) (botv (takv h n qf q x))) from (tk_of1 (show b < 8 by omega) (emp0.mp c192)).symm]; exact hD
                exact W.iret hx hb hr (fun t ht hW => ⟨⟨_, (), rfl, by rw [show thR 1 1000 x = 0 from if_neg (fun h9 => h9.elim c3 c10), if_pos rfl], by rw [ht]; exact hP, va_K.moved hW.alike hK, hD⟩, hS.F ht⟩) hS.2.2 dX3_draw_202
              · refine lv_aload_n hx hb dX3_draw_195 rfl (lv_at hl 4 rfl) ?_
                refine lv_iload hx hb dX3_draw_196 (lv_at hl 1 rfl) ?_
                refine kw_v (va_runV (As := [.int (nI b)]) (rest := []) ⟨hx, hb, hml, hown, hts⟩ (metX3_empties l D H.size y aw az ah ak cI cD n (by omega) wm ys (FP.dsub q (botv (takv h n qf q x))) qf ((dk 0) + 0) ((dk 1) + (takv h n qf q x)) ((dk 2) + 0) 0 wd zs (vf_upd h b (FP.dsub (h b) (botv (takv h n qf q x)))) kp b (by omega)) (cwV 1 hts gX3_draw_X3_empties rfl rfl rfl (by decide +kernel) ⟨Nat.le_of_ble_eq_true rfl, Nat.le_of_ble_eq_true rfl⟩) (pmV 3 0 RX3 TX3 13 rfl rfl hP hK hD) rfl rfl hl.1 rfl (lv_room (Nat.le_of_ble_eq_true rfl)) dX3_draw_198 ⟨Nat.le_of_ble_eq_true rfl, Nat.le_of_ble_eq_true rfl⟩) hP hD hS hA (fun H locs hP hD hS => ?_)
                have hP : va_P D vwCl (modW y aw az ah ak cI cD (nI n) wm ys (FP.dsub q (botv (takv h n qf q x))) qf ((dk 0) + 0) ((dk 1) + (takv h n qf q x)) ((dk 2) + 0) 0 wd zs (hset (vf_upd h b (FP.dsub (h b) (botv (takv h n qf q x)))) b 0 0 0 0) kp) H := hP
                have hD : va_D A (modW y aw az ah ak cI cD (nI n) wm ys (FP.dsub q (botv (takv h n qf q x))) qf ((dk 0) + 0) ((dk 1) + (takv h n qf q x)) ((dk 2) + 0) 0 wd zs (hset (vf_upd h b (FP.dsub (h b) (botv (takv h n qf q x)))) b 0 0 0 0) kp) := hD
                refine lv_iload_n hx hb dX3_draw_201 rfl (lv_at hl 2 rfl) ?_
                have hP : va_P D vwCl (modW y aw az ah ak cI cD (nI n) wm ys (if thR 1 1000 x = 0 then drQ h n qf q x else q) qf (if thR 1 1000 x = 0 then drK dk h n qf q x 0 else dk 0) (if thR 1 1000 x = 0 then drK dk h n qf q x 1 else dk 1) (if thR 1 1000 x = 0 then drK dk h n qf q x 2 else dk 2) (thR 1 1000 x) wd zs (if thR 1 1000 x = 0 then drH h n qf q x else h) kp) H := by rw [show thR 1 1000 x = 0 from if_neg (fun h9 => h9.elim c3 c10), if_pos rfl, if_pos rfl, if_pos rfl, if_pos rfl, if_pos rfl, (dr_yes (dk := dk) ho h0).1, (dr_yes (dk := dk) ho h0).2.1, show drK dk h n qf q x 0 = dk 0 + 0 from by rw [(dr_yes (dk := dk) ho h0).2.2, knd1 c78 c110, i32_add0]; rfl, show drK dk h n qf q x 1 = dk 1 + (takv h n qf q x) from by rw [(dr_yes (dk := dk) ho h0).2.2, knd1 c78 c110]; rfl, show drK dk h n qf q x 2 = dk 2 + 0 from by rw [(dr_yes (dk := dk) ho h0).2.2, knd1 c78 c110, i32_add0]; rfl, show tkH h b (botv (takv h n qf q x)) = hset (vf_upd h b (FP.dsub (h b) (botv (takv h n qf q x)))) b 0 0 0 0 from (tk_of2 (show b < 8 by omega) (fun h9 => c192 (emp0.mpr h9))).symm]; exact hP
                have hD : va_D A (modW y aw az ah ak cI cD (nI n) wm ys (if thR 1 1000 x = 0 then drQ h n qf q x else q) qf (if thR 1 1000 x = 0 then drK dk h n qf q x 0 else dk 0) (if thR 1 1000 x = 0 then drK dk h n qf q x 1 else dk 1) (if thR 1 1000 x = 0 then drK dk h n qf q x 2 else dk 2) (thR 1 1000 x) wd zs (if thR 1 1000 x = 0 then drH h n qf q x else h) kp) := by rw [show thR 1 1000 x = 0 from if_neg (fun h9 => h9.elim c3 c10), if_pos rfl, if_pos rfl, if_pos rfl, if_pos rfl, if_pos rfl, (dr_yes (dk := dk) ho h0).1, (dr_yes (dk := dk) ho h0).2.1, show drK dk h n qf q x 0 = dk 0 + 0 from by rw [(dr_yes (dk := dk) ho h0).2.2, knd1 c78 c110, i32_add0]; rfl, show drK dk h n qf q x 1 = dk 1 + (takv h n qf q x) from by rw [(dr_yes (dk := dk) ho h0).2.2, knd1 c78 c110]; rfl, show drK dk h n qf q x 2 = dk 2 + 0 from by rw [(dr_yes (dk := dk) ho h0).2.2, knd1 c78 c110, i32_add0]; rfl, show tkH h b (botv (takv h n qf q x)) = hset (vf_upd h b (FP.dsub (h b) (botv (takv h n qf q x)))) b 0 0 0 0 from (tk_of2 (show b < 8 by omega) (fun h9 => c192 (emp0.mpr h9))).symm]; exact hD
                exact W.iret hx hb hr (fun t ht hW => ⟨⟨_, (), rfl, by rw [show thR 1 1000 x = 0 from if_neg (fun h9 => h9.elim c3 c10), if_pos rfl], by rw [ht]; exact hP, va_K.moved hW.alike hK, hD⟩, hS.F ht⟩) hS.2.2 dX3_draw_202
          · refine lv_iload_n hx hb dX3_draw_82 rfl (lv_at hl 2 rfl) ?_
            refine lv_goto (tgt := 87) hx hb dX3_draw_83 (by decide) ?_
            refine lv_iadd hx hb dX3_draw_87 ?_
            refine va_put (D := D) (ci := 3) (v := .int ((dk 0) + (takv h n qf q x))) (ty := .int) (C := RX3) (T := TX3) (N := 13) hx hb hts (by decide +kernel) tyX3 tyX3_ok nmX3 hown hK hP hD hS (0) rfl rfl 9 (by decide) (hts (.fieldLink RX3 126 "VinegarLoftModel" "young" "I") (by decide +kernel)) (fun _ h9 => h9) rfl (by decide +kernel) rfl rfl (Nat.le_of_ble_eq_true rfl) dX3_draw_88 (fun H locs hP hD hS => ?_)
            have hP : va_P D vwCl (modW y aw az ah ak cI cD (nI n) wm ys q qf ((dk 0) + (takv h n qf q x)) (dk 1) (dk 2) 0 wd zs h kp) H := hP
            have hD : va_D A (modW y aw az ah ak cI cD (nI n) wm ys q qf ((dk 0) + (takv h n qf q x)) (dk 1) (dk 2) 0 wd zs h kp) := hD
            refine lv_aload_n hx hb dX3_draw_91 rfl (lv_at hl 4 rfl) ?_
            refine lv_dup hx hb dX3_draw_92 rfl ?_
            refine va_get (D := D) (ci := 3) (v := .int (dk 1)) (C := RX3) (T := TX3) (N := 13) hx hb hts (by decide +kernel) hown hK hP (0) rfl rfl 10 (by decide) (hts (.fieldLink RX3 131 "VinegarLoftModel" "ripe" "I") (by decide +kernel)) (fun _ h9 => h9) rfl dX3_draw_93 ?_
            refine lv_dload hx hb dX3_draw_96 (lv_at hl 0 rfl) ?_
            refine lv_ldc2d hx hb hown (hts (.constantDouble RX3 129 4625759767262920704) (by decide +kernel)) dX3_draw_98 ?_
            refine kd_lt (tgt := 118) hx hb dX3_draw_101 dX3_draw_102 (by decide) (cmp_ne  (hN b hbn).2.ne (NN.ne (by unfold NN; decide +kernel))) (fun c101 => ?_) (fun c101 => absurd c78 c101)
            refine lv_iconst (v := 0) hx hb dX3_draw_118 (by decide) ?_
            refine lv_iadd hx hb dX3_draw_119 ?_
            refine va_put (D := D) (ci := 3) (v := .int ((dk 1) + 0)) (ty := .int) (C := RX3) (T := TX3) (N := 13) hx hb hts (by decide +kernel) tyX3 tyX3_ok nmX3 hown hK hP hD hS (0) rfl rfl 10 (by decide) (hts (.fieldLink RX3 131 "VinegarLoftModel" "ripe" "I") (by decide +kernel)) (fun _ h9 => h9) rfl (by decide +kernel) rfl rfl (Nat.le_of_ble_eq_true rfl) dX3_draw_120 (fun H locs hP hD hS => ?_)
            have hP : va_P D vwCl (modW y aw az ah ak cI cD (nI n) wm ys q qf ((dk 0) + (takv h n qf q x)) ((dk 1) + 0) (dk 2) 0 wd zs h kp) H := hP
            have hD : va_D A (modW y aw az ah ak cI cD (nI n) wm ys q qf ((dk 0) + (takv h n qf q x)) ((dk 1) + 0) (dk 2) 0 wd zs h kp) := hD
            refine lv_aload_n hx hb dX3_draw_123 rfl (lv_at hl 4 rfl) ?_
            refine lv_dup hx hb dX3_draw_124 rfl ?_
            refine va_get (D := D) (ci := 3) (v := .int (dk 2)) (C := RX3) (T := TX3) (N := 13) hx hb hts (by decide +kernel) hown hK hP (0) rfl rfl 11 (by decide) (hts (.fieldLink RX3 134 "VinegarLoftModel" "old" "I") (by decide +kernel)) (fun _ h9 => h9) rfl dX3_draw_125 ?_
            refine lv_dload hx hb dX3_draw_128 (lv_at hl 0 rfl) ?_
            refine lv_ldc2d hx hb hown (hts (.constantDouble RX3 108 4627730092099895296) (by decide +kernel)) dX3_draw_130 ?_
            refine kd_lt (tgt := 141) hx hb dX3_draw_133 dX3_draw_134 (by decide) (cmp_ne  (hN b hbn).2.ne (NN.ne (by unfold NN; decide +kernel))) (fun c133 => ?_) (fun c133 => absurd (lt18_25 (hN b hbn).2 c78) c133)
            refine lv_iconst (v := 0) hx hb dX3_draw_141 (by decide) ?_
            refine lv_iadd hx hb dX3_draw_142 ?_
            refine va_put (D := D) (ci := 3) (v := .int ((dk 2) + 0)) (ty := .int) (C := RX3) (T := TX3) (N := 13) hx hb hts (by decide +kernel) tyX3 tyX3_ok nmX3 hown hK hP hD hS (0) rfl rfl 11 (by decide) (hts (.fieldLink RX3 134 "VinegarLoftModel" "old" "I") (by decide +kernel)) (fun _ h9 => h9) rfl (by decide +kernel) rfl rfl (Nat.le_of_ble_eq_true rfl) dX3_draw_143 (fun H locs hP hD hS => ?_)
            have hP : va_P D vwCl (modW y aw az ah ak cI cD (nI n) wm ys q qf ((dk 0) + (takv h n qf q x)) ((dk 1) + 0) ((dk 2) + 0) 0 wd zs h kp) H := hP
            have hD : va_D A (modW y aw az ah ak cI cD (nI n) wm ys q qf ((dk 0) + (takv h n qf q x)) ((dk 1) + 0) ((dk 2) + 0) 0 wd zs h kp) := hD
            refine lv_aload_n hx hb dX3_draw_146 rfl (lv_at hl 4 rfl) ?_
            refine lv_aload_n hx hb dX3_draw_147 rfl (lv_at hl 4 rfl) ?_
            refine va_get (D := D) (ci := 3) (v := .double q) (C := RX3) (T := TX3) (N := 13) hx hb hts (by decide +kernel) hown hK hP (0) rfl rfl 7 (by decide) (hts (.fieldLink RX3 104 "VinegarLoftModel" "quota" "D") (by decide +kernel)) (fun _ h9 => h9) rfl dX3_draw_148 ?_
            refine lv_iload_n hx hb dX3_draw_151 rfl (lv_at hl 2 rfl) ?_
            refine lv_i2d hx hb dX3_draw_152 ?_
            refine lv_ldc2d hx hb hown (hts (.constantDouble RX3 84 4591870180066957722) (by decide +kernel)) dX3_draw_153 ?_
            refine lv_dmul hx hb dX3_draw_156 d0 ?_
            refine kd_eq (show (FP.dmul (FP.i2d (takv h n qf q x)) 4591870180066957722) = botv (takv h n qf q x) from rfl) ?_
            refine lv_dsub hx hb dX3_draw_157 d1 ?_
            refine va_put (D := D) (ci := 3) (v := .double (FP.dsub q (botv (takv h n qf q x)))) (ty := .double) (C := RX3) (T := TX3) (N := 13) hx hb hts (by decide +kernel) tyX3 tyX3_ok nmX3 hown hK hP hD hS (0) rfl rfl 7 (by decide) (hts (.fieldLink RX3 104 "VinegarLoftModel" "quota" "D") (by decide +kernel)) (fun _ h9 => h9) rfl (by decide +kernel) rfl rfl (Nat.le_of_ble_eq_true rfl) dX3_draw_158 (fun H locs hP hD hS => ?_)
            have hP : va_P D vwCl (modW y aw az ah ak cI cD (nI n) wm ys (FP.dsub q (botv (takv h n qf q x))) qf ((dk 0) + (takv h n qf q x)) ((dk 1) + 0) ((dk 2) + 0) 0 wd zs h kp) H := hP
            have hD : va_D A (modW y aw az ah ak cI cD (nI n) wm ys (FP.dsub q (botv (takv h n qf q x))) qf ((dk 0) + (takv h n qf q x)) ((dk 1) + 0) ((dk 2) + 0) 0 wd zs h kp) := hD
            refine lv_aload_n hx hb dX3_draw_161 rfl (lv_at hl 4 rfl) ?_
            refine va_get (D := D) (ci := 3) (v := .ref ah) (C := RX3) (T := TX3) (N := 13) hx hb hts (by decide +kernel) hown hK hP (0) rfl rfl 2 (by decide) (hts (.fieldLink RX3 16 "VinegarLoftModel" "holds" "[D") (by decide +kernel)) (fun _ h9 => h9) rfl dX3_draw_162 ?_
            refine lv_iconst (v := 0) hx hb dX3_draw_165 (by decide) ?_
            refine lv_iload hx hb dX3_draw_166 (lv_at hl 1 rfl) ?_
            refine lv_iadd hx hb dX3_draw_168 ?_
            refine lv_aload_n hx hb dX3_draw_169 rfl (lv_at hl 4 rfl) ?_
            refine va_get (D := D) (ci := 3) (v := .ref ah) (C := RX3) (T := TX3) (N := 13) hx hb hts (by decide +kernel) hown hK hP (0) rfl rfl 2 (by decide) (hts (.fieldLink RX3 16 "VinegarLoftModel" "holds" "[D") (by decide +kernel)) (fun _ h9 => h9) rfl dX3_draw_170 ?_
            refine lv_iconst (v := 0) hx hb dX3_draw_173 (by decide) ?_
            refine lv_iload hx hb dX3_draw_174 (lv_at hl 1 rfl) ?_
            refine lv_iadd hx hb dX3_draw_176 ?_
            refine kx_dald hx hb hK hP 3 1 rfl rfl (j := b) (ix0 b) (show b < 32 by omega) (by decide) dX3_draw_177 ?_
            refine lv_iload_n hx hb dX3_draw_178 rfl (lv_at hl 2 rfl) ?_
            refine lv_i2d hx hb dX3_draw_179 ?_
            refine lv_ldc2d hx hb hown (hts (.constantDouble RX3 84 4591870180066957722) (by decide +kernel)) dX3_draw_180 ?_
            refine lv_dmul hx hb dX3_draw_183 d0 ?_
            refine kd_eq (show (FP.dmul (FP.i2d (takv h n qf q x)) 4591870180066957722) = botv (takv h n qf q x) from rfl) ?_
            refine lv_dsub hx hb dX3_draw_184 d2 ?_
            refine kx_dast hx hb hK hP hD hS 3 1 rfl rfl (j := b) (ix0 b) (show b < 32 by omega) (by decide) dX3_draw_185 (fun H locs hP hD hS => ?_)
            have hP : va_P D vwCl (modW y aw az ah ak cI cD (nI n) wm ys (FP.dsub q (botv (takv h n qf q x))) qf ((dk 0) + (takv h n qf q x)) ((dk 1) + 0) ((dk 2) + 0) 0 wd zs (vf_upd h b (FP.dsub (h b) (botv (takv h n qf q x)))) kp) H := hP
            have hD : va_D A (modW y aw az ah ak cI cD (nI n) wm ys (FP.dsub q (botv (takv h n qf q x))) qf ((dk 0) + (takv h n qf q x)) ((dk 1) + 0) ((dk 2) + 0) 0 wd zs (vf_upd h b (FP.dsub (h b) (botv (takv h n qf q x)))) kp) := hD
            refine lv_aload_n hx hb dX3_draw_186 rfl (lv_at hl 4 rfl) ?_
            refine lv_iload hx hb dX3_draw_187 (lv_at hl 1 rfl) ?_
            refine kr_i (W.runV (As := [.int (nI b)]) (rest := []) ⟨hx, hb, hml, hown, hts⟩ (metX3_isEmpty l D y aw az ah ak cI cD n (by omega) wm ys (FP.dsub q (botv (takv h n qf q x))) qf ((dk 0) + (takv h n qf q x)) ((dk 1) + 0) ((dk 2) + 0) 0 wd zs (vf_upd h b (FP.dsub (h b) (botv (takv h n qf q x)))) kp b (by omega) (show FP.dcmp ((vf_upd h b (FP.dsub (h b) (botv (takv h n qf q x)))) b) 0 ≠ none by rw [vu_s]; exact d3)) (cwV 1 hts gX3_draw_X3_isEmpty rfl rfl rfl (by decide +kernel) ⟨Nat.le_of_ble_eq_true rfl, Nat.le_of_ble_eq_true rfl⟩) (prV 3 0 RX3 TX3 13 rfl rfl hP hK) rfl rfl hl.1 rfl (lv_room (Nat.le_of_ble_eq_true rfl)) dX3_draw_189 ⟨Nat.le_of_ble_eq_true rfl, Nat.le_of_ble_eq_true rfl⟩) ?_
            refine ki_eq (show emp ((vf_upd h b (FP.dsub (h b) (botv (takv h n qf q x)))) b) = emp (FP.dsub (h b) (botv (takv h n qf q x))) from by rw [vu_s]) ?_
            refine lv_if_eq (tgt := 201) hx hb dX3_draw_192 (by decide) (fun c192 => ?_) (fun c192 => ?_)
            · refine lv_iload_n hx hb dX3_draw_201 rfl (lv_at hl 2 rfl) ?_
              have hP : va_P D vwCl (modW y aw az ah ak cI cD (nI n) wm ys (if thR 1 1000 x = 0 then drQ h n qf q x else q) qf (if thR 1 1000 x = 0 then drK dk h n qf q x 0 else dk 0) (if thR 1 1000 x = 0 then drK dk h n qf q x 1 else dk 1) (if thR 1 1000 x = 0 then drK dk h n qf q x 2 else dk 2) (thR 1 1000 x) wd zs (if thR 1 1000 x = 0 then drH h n qf q x else h) kp) H := by rw [show thR 1 1000 x = 0 from if_neg (fun h9 => h9.elim c3 c10), if_pos rfl, if_pos rfl, if_pos rfl, if_pos rfl, if_pos rfl, (dr_yes (dk := dk) ho h0).1, (dr_yes (dk := dk) ho h0).2.1, show drK dk h n qf q x 0 = dk 0 + (takv h n qf q x) from by rw [(dr_yes (dk := dk) ho h0).2.2, knd0 c78]; rfl, show drK dk h n qf q x 1 = dk 1 + 0 from by rw [(dr_yes (dk := dk) ho h0).2.2, knd0 c78, i32_add0]; rfl, show drK dk h n qf q x 2 = dk 2 + 0 from by rw [(dr_yes (dk := dk) ho h0).2.2, knd0 c78, i32_add0]; rfl, show tkH h b (botv (takv h n qf q x)) = vf_upd h b (FP.dsub (h b) (botv (takv h n qf q x))) from (tk_of1 (show b < 8 by omega) (emp0.mp c192)).symm]; exact hP
              have hD : va_D A (modW y aw az ah ak cI cD (nI n) wm ys (if thR 1 1000 x = 0 then drQ h n qf q x else q) qf (if thR 1 1000 x = 0 then drK dk h n qf q x 0 else dk 0) (if thR 1 1000 x = 0 then drK dk h n qf q x 1 else dk 1) (if thR 1 1000 x = 0 then drK dk h n qf q x 2 else dk 2) (thR 1 1000 x) wd zs (if thR 1 1000 x = 0 then drH h n qf q x else h) kp) := by rw [show thR 1 1000 x = 0 from if_neg (fun h9 => h9.elim c3 c10), if_pos rfl, if_pos rfl, if_pos rfl, if_pos rfl, if_pos rfl, (dr_yes (dk := dk) ho h0).1, (dr_yes (dk := dk) ho h0).2.1, show drK dk h n qf q x 0 = dk 0 + (takv h n qf q x) from by rw [(dr_yes (dk := dk) ho h0).2.2, knd0 c78]; rfl, show drK dk h n qf q x 1 = dk 1 + 0 from by rw [(dr_yes (dk := dk) ho h0).2.2, knd0 c78, i32_add0]; rfl, show drK dk h n qf q x 2 = dk 2 + 0 from by rw [(dr_yes (dk := dk) ho h0).2.2, knd0 c78, i32_add0]; rfl, show tkH h b (botv (takv h n qf q x)) = vf_upd h b (FP.dsub (h b) (botv (takv h n qf q x))) from (tk_of1 (show b < 8 by omega) (emp0.mp c192)).symm]; exact hD
              exact W.iret hx hb hr (fun t ht hW => ⟨⟨_, (), rfl, by rw [show thR 1 1000 x = 0 from if_neg (fun h9 => h9.elim c3 c10), if_pos rfl], by rw [ht]; exact hP, va_K.moved hW.alike hK, hD⟩, hS.F ht⟩) hS.2.2 dX3_draw_202
            · refine lv_aload_n hx hb dX3_draw_195 rfl (lv_at hl 4 rfl) ?_
              refine lv_iload hx hb dX3_draw_196 (lv_at hl 1 rfl) ?_
              refine kw_v (va_runV (As := [.int (nI b)]) (rest := []) ⟨hx, hb, hml, hown, hts⟩ (metX3_empties l D H.size y aw az ah ak cI cD n (by omega) wm ys (FP.dsub q (botv (takv h n qf q x))) qf ((dk 0) + (takv h n qf q x)) ((dk 1) + 0) ((dk 2) + 0) 0 wd zs (vf_upd h b (FP.dsub (h b) (botv (takv h n qf q x)))) kp b (by omega)) (cwV 1 hts gX3_draw_X3_empties rfl rfl rfl (by decide +kernel) ⟨Nat.le_of_ble_eq_true rfl, Nat.le_of_ble_eq_true rfl⟩) (pmV 3 0 RX3 TX3 13 rfl rfl hP hK hD) rfl rfl hl.1 rfl (lv_room (Nat.le_of_ble_eq_true rfl)) dX3_draw_198 ⟨Nat.le_of_ble_eq_true rfl, Nat.le_of_ble_eq_true rfl⟩) hP hD hS hA (fun H locs hP hD hS => ?_)
              have hP : va_P D vwCl (modW y aw az ah ak cI cD (nI n) wm ys (FP.dsub q (botv (takv h n qf q x))) qf ((dk 0) + (takv h n qf q x)) ((dk 1) + 0) ((dk 2) + 0) 0 wd zs (hset (vf_upd h b (FP.dsub (h b) (botv (takv h n qf q x)))) b 0 0 0 0) kp) H := hP
              have hD : va_D A (modW y aw az ah ak cI cD (nI n) wm ys (FP.dsub q (botv (takv h n qf q x))) qf ((dk 0) + (takv h n qf q x)) ((dk 1) + 0) ((dk 2) + 0) 0 wd zs (hset (vf_upd h b (FP.dsub (h b) (botv (takv h n qf q x)))) b 0 0 0 0) kp) := hD
              refine lv_iload_n hx hb dX3_draw_201 rfl (lv_at hl 2 rfl) ?_
              have hP : va_P D vwCl (modW y aw az ah ak cI cD (nI n) wm ys (if thR 1 1000 x = 0 then drQ h n qf q x else q) qf (if thR 1 1000 x = 0 then drK dk h n qf q x 0 else dk 0) (if thR 1 1000 x = 0 then drK dk h n qf q x 1 else dk 1) (if thR 1 1000 x = 0 then drK dk h n qf q x 2 else dk 2) (thR 1 1000 x) wd zs (if thR 1 1000 x = 0 then drH h n qf q x else h) kp) H := by rw [show thR 1 1000 x = 0 from if_neg (fun h9 => h9.elim c3 c10), if_pos rfl, if_pos rfl, if_pos rfl, if_pos rfl, if_pos rfl, (dr_yes (dk := dk) ho h0).1, (dr_yes (dk := dk) ho h0).2.1, show drK dk h n qf q x 0 = dk 0 + (takv h n qf q x) from by rw [(dr_yes (dk := dk) ho h0).2.2, knd0 c78]; rfl, show drK dk h n qf q x 1 = dk 1 + 0 from by rw [(dr_yes (dk := dk) ho h0).2.2, knd0 c78, i32_add0]; rfl, show drK dk h n qf q x 2 = dk 2 + 0 from by rw [(dr_yes (dk := dk) ho h0).2.2, knd0 c78, i32_add0]; rfl, show tkH h b (botv (takv h n qf q x)) = hset (vf_upd h b (FP.dsub (h b) (botv (takv h n qf q x)))) b 0 0 0 0 from (tk_of2 (show b < 8 by omega) (fun h9 => c192 (emp0.mpr h9))).symm]; exact hP
              have hD : va_D A (modW y aw az ah ak cI cD (nI n) wm ys (if thR 1 1000 x = 0 then drQ h n qf q x else q) qf (if thR 1 1000 x = 0 then drK dk h n qf q x 0 else dk 0) (if thR 1 1000 x = 0 then drK dk h n qf q x 1 else dk 1) (if thR 1 1000 x = 0 then drK dk h n qf q x 2 else dk 2) (thR 1 1000 x) wd zs (if thR 1 1000 x = 0 then drH h n qf q x else h) kp) := by rw [show thR 1 1000 x = 0 from if_neg (fun h9 => h9.elim c3 c10), if_pos rfl, if_pos rfl, if_pos rfl, if_pos rfl, if_pos rfl, (dr_yes (dk := dk) ho h0).1, (dr_yes (dk := dk) ho h0).2.1, show drK dk h n qf q x 0 = dk 0 + (takv h n qf q x) from by rw [(dr_yes (dk := dk) ho h0).2.2, knd0 c78]; rfl, show drK dk h n qf q x 1 = dk 1 + 0 from by rw [(dr_yes (dk := dk) ho h0).2.2, knd0 c78, i32_add0]; rfl, show drK dk h n qf q x 2 = dk 2 + 0 from by rw [(dr_yes (dk := dk) ho h0).2.2, knd0 c78, i32_add0]; rfl, show tkH h b (botv (takv h n qf q x)) = hset (vf_upd h b (FP.dsub (h b) (botv (takv h n qf q x)))) b 0 0 0 0 from (tk_of2 (show b < 8 by omega) (fun h9 => c192 (emp0.mpr h9))).symm]; exact hD
              exact W.iret hx hb hr (fun t ht hW => ⟨⟨_, (), rfl, by rw [show thR 1 1000 x = 0 from if_neg (fun h9 => h9.elim c3 c10), if_pos rfl], by rw [ht]; exact hP, va_K.moved hW.alike hK, hD⟩, hS.F ht⟩) hS.2.2 dX3_draw_202
      · refine lv_iload_n hx hb dX3_draw_40 rfl (lv_at hl 2 rfl) ?_
        refine lv_goto (tgt := 45) hx hb dX3_draw_41 (by decide) ?_
        refine ki_eq (show x = takv h n qf q x from by unfold takv; rw [if_pos (i32_nle c37)]) ?_
        refine lv_istore_n (lv' := [(3, .int (takv h n qf q x)), (2, .int (rdv h n qf q)), (0, .ref y), (1, .int x)]) hx hb dX3_draw_45 rfl hl (by decide) rfl (fun ls hl => ?_)
        refine lv_iload_n hx hb dX3_draw_46 rfl (lv_at hl 0 rfl) ?_
        refine lv_if_le (tgt := 201) hx hb dX3_draw_47 (by decide) (fun c47 => ?_) (fun c47 => ?_)
        · refine lv_iload_n hx hb dX3_draw_201 rfl (lv_at hl 0 rfl) ?_
          have hP : va_P D vwCl (modW y aw az ah ak cI cD (nI n) wm ys (if thR 1 1000 x = 0 then drQ h n qf q x else q) qf (if thR 1 1000 x = 0 then drK dk h n qf q x 0 else dk 0) (if thR 1 1000 x = 0 then drK dk h n qf q x 1 else dk 1) (if thR 1 1000 x = 0 then drK dk h n qf q x 2 else dk 2) (thR 1 1000 x) wd zs (if thR 1 1000 x = 0 then drH h n qf q x else h) kp) H := by rw [show thR 1 1000 x = 0 from if_neg (fun h9 => h9.elim c3 c10), if_pos rfl, if_pos rfl, if_pos rfl, if_pos rfl, if_pos rfl, (dr_no (dk := dk) c47).1, (dr_no (h := h) (n := n) (df := qf) (q := q) (x := x) (dk := dk) c47).2.1, (dr_no (dk := dk) c47).2.2]; exact hP
          have hD : va_D A (modW y aw az ah ak cI cD (nI n) wm ys (if thR 1 1000 x = 0 then drQ h n qf q x else q) qf (if thR 1 1000 x = 0 then drK dk h n qf q x 0 else dk 0) (if thR 1 1000 x = 0 then drK dk h n qf q x 1 else dk 1) (if thR 1 1000 x = 0 then drK dk h n qf q x 2 else dk 2) (thR 1 1000 x) wd zs (if thR 1 1000 x = 0 then drH h n qf q x else h) kp) := by rw [show thR 1 1000 x = 0 from if_neg (fun h9 => h9.elim c3 c10), if_pos rfl, if_pos rfl, if_pos rfl, if_pos rfl, if_pos rfl, (dr_no (dk := dk) c47).1, (dr_no (h := h) (n := n) (df := qf) (q := q) (x := x) (dk := dk) c47).2.1, (dr_no (dk := dk) c47).2.2]; exact hD
          exact W.iret hx hb hr (fun t ht hW => ⟨⟨_, (), rfl, by rw [show thR 1 1000 x = 0 from if_neg (fun h9 => h9.elim c3 c10), if_pos rfl], by rw [ht]; exact hP, va_K.moved hW.alike hK, hD⟩, hS.F ht⟩) hS.2.2 dX3_draw_202
        · have h0 : 0 < takv h n qf q x := i32_pos c47
          obtain ⟨b, ho, hqf⟩ := rdv_pos (tak_pos h0)
          have hbn : b < n := elO_lt h n b ho
          obtain ⟨d0, d1, d2, d3⟩ := hdk (fun h9 => h9.elim c3 c10) b ho h0
          refine lv_aload_n hx hb dX3_draw_50 rfl (lv_at hl 2 rfl) ?_
          refine va_get (D := D) (ci := 3) (v := .int qf) (C := RX3) (T := TX3) (N := 13) hx hb hts (by decide +kernel) hown hK hP (0) rfl rfl 8 (by decide) (hts (.fieldLink RX3 27 "VinegarLoftModel" "quotaFrom" "I") (by decide +kernel)) (fun _ h9 => h9) rfl dX3_draw_51 ?_
          refine ki_eq (hqf.symm : qf = nI b) ?_
          refine lv_istore (lv' := [(4, .int (nI b)), (3, .int (takv h n qf q x)), (2, .int (rdv h n qf q)), (0, .ref y), (1, .int x)]) hx hb dX3_draw_54 hl (by decide) rfl (fun ls hl => ?_)
          refine lv_aload_n hx hb dX3_draw_56 rfl (lv_at hl 3 rfl) ?_
          refine va_get (D := D) (ci := 3) (v := .ref ah) (C := RX3) (T := TX3) (N := 13) hx hb hts (by decide +kernel) hown hK hP (0) rfl rfl 2 (by decide) (hts (.fieldLink RX3 16 "VinegarLoftModel" "holds" "[D") (by decide +kernel)) (fun _ h9 => h9) rfl dX3_draw_57 ?_
          refine lv_bipush (v := 8) hx hb dX3_draw_60 (by decide) ?_
          refine lv_iload hx hb dX3_draw_62 (lv_at hl 0 rfl) ?_
          refine lv_iadd hx hb dX3_draw_64 ?_
          refine kx_dald hx hb hK hP 3 1 rfl rfl (j := 8 + b) (ixc 8 b) (show 8 + b < 32 by omega) (by decide) dX3_draw_65 ?_
          refine lv_dstore (lv' := [(5, .double (h (8 + b))), (4, .int (nI b)), (3, .int (takv h n qf q x)), (2, .int (rdv h n qf q)), (0, .ref y), (1, .int x)]) hx hb dX3_draw_66 hl (by decide) rfl (fun ls hl => ?_)
          refine lv_aload_n hx hb dX3_draw_68 rfl (lv_at hl 4 rfl) ?_
          refine lv_dup hx hb dX3_draw_69 rfl ?_
          refine va_get (D := D) (ci := 3) (v := .int (dk 0)) (C := RX3) (T := TX3) (N := 13) hx hb hts (by decide +kernel) hown hK hP (0) rfl rfl 9 (by decide) (hts (.fieldLink RX3 126 "VinegarLoftModel" "young" "I") (by decide +kernel)) (fun _ h9 => h9) rfl dX3_draw_70 ?_
          refine lv_dload hx hb dX3_draw_73 (lv_at hl 0 rfl) ?_
          refine lv_ldc2d hx hb hown (hts (.constantDouble RX3 129 4625759767262920704) (by decide +kernel)) dX3_draw_75 ?_
          refine kd_ge (tgt := 86) hx hb dX3_draw_78 dX3_draw_79 (by decide) (cmp_ne  (hN b hbn).2.ne (NN.ne (by unfold NN; decide +kernel))) (fun c78 => ?_) (fun c78 => ?_)
          · refine lv_iconst (v := 0) hx hb dX3_draw_86 (by decide) ?_
            refine lv_iadd hx hb dX3_draw_87 ?_
            refine va_put (D := D) (ci := 3) (v := .int ((dk 0) + 0)) (ty := .int) (C := RX3) (T := TX3) (N := 13) hx hb hts (by decide +kernel) tyX3 tyX3_ok nmX3 hown hK hP hD hS (0) rfl rfl 9 (by decide) (hts (.fieldLink RX3 126 "VinegarLoftModel" "young" "I") (by decide +kernel)) (fun _ h9 => h9) rfl (by decide +kernel) rfl rfl (Nat.le_of_ble_eq_true rfl) dX3_draw_88 (fun H locs hP hD hS => ?_)
            have hP : va_P D vwCl (modW y aw az ah ak cI cD (nI n) wm ys q qf ((dk 0) + 0) (dk 1) (dk 2) 0 wd zs h kp) H := hP
            have hD : va_D A (modW y aw az ah ak cI cD (nI n) wm ys q qf ((dk 0) + 0) (dk 1) (dk 2) 0 wd zs h kp) := hD
            refine lv_aload_n hx hb dX3_draw_91 rfl (lv_at hl 4 rfl) ?_
            refine lv_dup hx hb dX3_draw_92 rfl ?_
            refine va_get (D := D) (ci := 3) (v := .int (dk 1)) (C := RX3) (T := TX3) (N := 13) hx hb hts (by decide +kernel) hown hK hP (0) rfl rfl 10 (by decide) (hts (.fieldLink RX3 131 "VinegarLoftModel" "ripe" "I") (by decide +kernel)) (fun _ h9 => h9) rfl dX3_draw_93 ?_
            refine lv_dload hx hb dX3_draw_96 (lv_at hl 0 rfl) ?_
            refine lv_ldc2d hx hb hown (hts (.constantDouble RX3 129 4625759767262920704) (by decide +kernel)) dX3_draw_98 ?_
            refine kd_lt (tgt := 118) hx hb dX3_draw_101 dX3_draw_102 (by decide) (cmp_ne  (hN b hbn).2.ne (NN.ne (by unfold NN; decide +kernel))) (fun c101 => absurd c101 c78) (fun c101 => ?_)
            refine lv_dload hx hb dX3_draw_105 (lv_at hl 0 rfl) ?_
            refine lv_ldc2d hx hb hown (hts (.constantDouble RX3 108 4627730092099895296) (by decide +kernel)) dX3_draw_107 ?_
            refine kd_ge (tgt := 118) hx hb dX3_draw_110 dX3_draw_111 (by decide) (cmp_ne  (hN b hbn).2.ne (NN.ne (by unfold NN; decide +kernel))) (fun c110 => ?_) (fun c110 => ?_)
            · refine lv_iconst (v := 0) hx hb dX3_draw_118 (by decide) ?_
              refine lv_iadd hx hb dX3_draw_119 ?_
              refine va_put (D := D) (ci := 3) (v := .int ((dk 1) + 0)) (ty := .int) (C := RX3) (T := TX3) (N := 13) hx hb hts (by decide +kernel) tyX3 tyX3_ok nmX3 hown hK hP hD hS (0) rfl rfl 10 (by decide) (hts (.fieldLink RX3 131 "VinegarLoftModel" "ripe" "I") (by decide +kernel)) (fun _ h9 => h9) rfl (by decide +kernel) rfl rfl (Nat.le_of_ble_eq_true rfl) dX3_draw_120 (fun H locs hP hD hS => ?_)
              have hP : va_P D vwCl (modW y aw az ah ak cI cD (nI n) wm ys q qf ((dk 0) + 0) ((dk 1) + 0) (dk 2) 0 wd zs h kp) H := hP
              have hD : va_D A (modW y aw az ah ak cI cD (nI n) wm ys q qf ((dk 0) + 0) ((dk 1) + 0) (dk 2) 0 wd zs h kp) := hD
              refine lv_aload_n hx hb dX3_draw_123 rfl (lv_at hl 4 rfl) ?_
              refine lv_dup hx hb dX3_draw_124 rfl ?_
              refine va_get (D := D) (ci := 3) (v := .int (dk 2)) (C := RX3) (T := TX3) (N := 13) hx hb hts (by decide +kernel) hown hK hP (0) rfl rfl 11 (by decide) (hts (.fieldLink RX3 134 "VinegarLoftModel" "old" "I") (by decide +kernel)) (fun _ h9 => h9) rfl dX3_draw_125 ?_
              refine lv_dload hx hb dX3_draw_128 (lv_at hl 0 rfl) ?_
              refine lv_ldc2d hx hb hown (hts (.constantDouble RX3 108 4627730092099895296) (by decide +kernel)) dX3_draw_130 ?_
              refine kd_lt (tgt := 141) hx hb dX3_draw_133 dX3_draw_134 (by decide) (cmp_ne  (hN b hbn).2.ne (NN.ne (by unfold NN; decide +kernel))) (fun c133 => absurd c133 c110) (fun c133 => ?_)
              refine lv_iload_n hx hb dX3_draw_137 rfl (lv_at hl 2 rfl) ?_
              refine lv_goto (tgt := 142) hx hb dX3_draw_138 (by decide) ?_
              refine lv_iadd hx hb dX3_draw_142 ?_
              refine va_put (D := D) (ci := 3) (v := .int ((dk 2) + (takv h n qf q x))) (ty := .int) (C := RX3) (T := TX3) (N := 13) hx hb hts (by decide +kernel) tyX3 tyX3_ok nmX3 hown hK hP hD hS (0) rfl rfl 11 (by decide) (hts (.fieldLink RX3 134 "VinegarLoftModel" "old" "I") (by decide +kernel)) (fun _ h9 => h9) rfl (by decide +kernel) rfl rfl (Nat.le_of_ble_eq_true rfl) dX3_draw_143 (fun H locs hP hD hS => ?_)
              have hP : va_P D vwCl (modW y aw az ah ak cI cD (nI n) wm ys q qf ((dk 0) + 0) ((dk 1) + 0) ((dk 2) + (takv h n qf q x)) 0 wd zs h kp) H := hP
              have hD : va_D A (modW y aw az ah ak cI cD (nI n) wm ys q qf ((dk 0) + 0) ((dk 1) + 0) ((dk 2) + (takv h n qf q x)) 0 wd zs h kp) := hD
              refine lv_aload_n hx hb dX3_draw_146 rfl (lv_at hl 4 rfl) ?_
              refine lv_aload_n hx hb dX3_draw_147 rfl (lv_at hl 4 rfl) ?_
              refine va_get (D := D) (ci := 3) (v := .double q) (C := RX3) (T := TX3) (N := 13) hx hb hts (by decide +kernel) hown hK hP (0) rfl rfl 7 (by decide) (hts (.fieldLink RX3 104 "VinegarLoftModel" "quota" "D") (by decide +kernel)) (fun _ h9 => h9) rfl dX3_draw_148 ?_
              refine lv_iload_n hx hb dX3_draw_151 rfl (lv_at hl 2 rfl) ?_
              refine lv_i2d hx hb dX3_draw_152 ?_
              refine lv_ldc2d hx hb hown (hts (.constantDouble RX3 84 4591870180066957722) (by decide +kernel)) dX3_draw_153 ?_
              refine lv_dmul hx hb dX3_draw_156 d0 ?_
              refine kd_eq (show (FP.dmul (FP.i2d (takv h n qf q x)) 4591870180066957722) = botv (takv h n qf q x) from rfl) ?_
              refine lv_dsub hx hb dX3_draw_157 d1 ?_
              refine va_put (D := D) (ci := 3) (v := .double (FP.dsub q (botv (takv h n qf q x)))) (ty := .double) (C := RX3) (T := TX3) (N := 13) hx hb hts (by decide +kernel) tyX3 tyX3_ok nmX3 hown hK hP hD hS (0) rfl rfl 7 (by decide) (hts (.fieldLink RX3 104 "VinegarLoftModel" "quota" "D") (by decide +kernel)) (fun _ h9 => h9) rfl (by decide +kernel) rfl rfl (Nat.le_of_ble_eq_true rfl) dX3_draw_158 (fun H locs hP hD hS => ?_)
              have hP : va_P D vwCl (modW y aw az ah ak cI cD (nI n) wm ys (FP.dsub q (botv (takv h n qf q x))) qf ((dk 0) + 0) ((dk 1) + 0) ((dk 2) + (takv h n qf q x)) 0 wd zs h kp) H := hP
              have hD : va_D A (modW y aw az ah ak cI cD (nI n) wm ys (FP.dsub q (botv (takv h n qf q x))) qf ((dk 0) + 0) ((dk 1) + 0) ((dk 2) + (takv h n qf q x)) 0 wd zs h kp) := hD
              refine lv_aload_n hx hb dX3_draw_161 rfl (lv_at hl 4 rfl) ?_
              refine va_get (D := D) (ci := 3) (v := .ref ah) (C := RX3) (T := TX3) (N := 13) hx hb hts (by decide +kernel) hown hK hP (0) rfl rfl 2 (by decide) (hts (.fieldLink RX3 16 "VinegarLoftModel" "holds" "[D") (by decide +kernel)) (fun _ h9 => h9) rfl dX3_draw_162 ?_
              refine lv_iconst (v := 0) hx hb dX3_draw_165 (by decide) ?_
              refine lv_iload hx hb dX3_draw_166 (lv_at hl 1 rfl) ?_
              refine lv_iadd hx hb dX3_draw_168 ?_
              refine lv_aload_n hx hb dX3_draw_169 rfl (lv_at hl 4 rfl) ?_
              refine va_get (D := D) (ci := 3) (v := .ref ah) (C := RX3) (T := TX3) (N := 13) hx hb hts (by decide +kernel) hown hK hP (0) rfl rfl 2 (by decide) (hts (.fieldLink RX3 16 "VinegarLoftModel" "holds" "[D") (by decide +kernel)) (fun _ h9 => h9) rfl dX3_draw_170 ?_
              refine lv_iconst (v := 0) hx hb dX3_draw_173 (by decide) ?_
              refine lv_iload hx hb dX3_draw_174 (lv_at hl 1 rfl) ?_
              refine lv_iadd hx hb dX3_draw_176 ?_
              refine kx_dald hx hb hK hP 3 1 rfl rfl (j := b) (ix0 b) (show b < 32 by omega) (by decide) dX3_draw_177 ?_
              refine lv_iload_n hx hb dX3_draw_178 rfl (lv_at hl 2 rfl) ?_
              refine lv_i2d hx hb dX3_draw_179 ?_
              refine lv_ldc2d hx hb hown (hts (.constantDouble RX3 84 4591870180066957722) (by decide +kernel)) dX3_draw_180 ?_
              refine lv_dmul hx hb dX3_draw_183 d0 ?_
              refine kd_eq (show (FP.dmul (FP.i2d (takv h n qf q x)) 4591870180066957722) = botv (takv h n qf q x) from rfl) ?_
              refine lv_dsub hx hb dX3_draw_184 d2 ?_
              refine kx_dast hx hb hK hP hD hS 3 1 rfl rfl (j := b) (ix0 b) (show b < 32 by omega) (by decide) dX3_draw_185 (fun H locs hP hD hS => ?_)
              have hP : va_P D vwCl (modW y aw az ah ak cI cD (nI n) wm ys (FP.dsub q (botv (takv h n qf q x))) qf ((dk 0) + 0) ((dk 1) + 0) ((dk 2) + (takv h n qf q x)) 0 wd zs (vf_upd h b (FP.dsub (h b) (botv (takv h n qf q x)))) kp) H := hP
              have hD : va_D A (modW y aw az ah ak cI cD (nI n) wm ys (FP.dsub q (botv (takv h n qf q x))) qf ((dk 0) + 0) ((dk 1) + 0) ((dk 2) + (takv h n qf q x)) 0 wd zs (vf_upd h b (FP.dsub (h b) (botv (takv h n qf q x)))) kp) := hD
              refine lv_aload_n hx hb dX3_draw_186 rfl (lv_at hl 4 rfl) ?_
              refine lv_iload hx hb dX3_draw_187 (lv_at hl 1 rfl) ?_
              refine kr_i (W.runV (As := [.int (nI b)]) (rest := []) ⟨hx, hb, hml, hown, hts⟩ (metX3_isEmpty l D y aw az ah ak cI cD n (by omega) wm ys (FP.dsub q (botv (takv h n qf q x))) qf ((dk 0) + 0) ((dk 1) + 0) ((dk 2) + (takv h n qf q x)) 0 wd zs (vf_upd h b (FP.dsub (h b) (botv (takv h n qf q x)))) kp b (by omega) (show FP.dcmp ((vf_upd h b (FP.dsub (h b) (botv (takv h n qf q x)))) b) 0 ≠ none by rw [vu_s]; exact d3)) (cwV 1 hts gX3_draw_X3_isEmpty rfl rfl rfl (by decide +kernel) ⟨Nat.le_of_ble_eq_true rfl, Nat.le_of_ble_eq_true rfl⟩) (prV 3 0 RX3 TX3 13 rfl rfl hP hK) rfl rfl hl.1 rfl (lv_room (Nat.le_of_ble_eq_true rfl)) dX3_draw_189 ⟨Nat.le_of_ble_eq_true rfl, Nat.le_of_ble_eq_true rfl⟩) ?_
              refine ki_eq (show emp ((vf_upd h b (FP.dsub (h b) (botv (takv h n qf q x)))) b) = emp (FP.dsub (h b) (botv (takv h n qf q x))) from by rw [vu_s]) ?_
              refine lv_if_eq (tgt := 201) hx hb dX3_draw_192 (by decide) (fun c192 => ?_) (fun c192 => ?_)
              · refine lv_iload_n hx hb dX3_draw_201 rfl (lv_at hl 2 rfl) ?_
                have hP : va_P D vwCl (modW y aw az ah ak cI cD (nI n) wm ys (if thR 1 1000 x = 0 then drQ h n qf q x else q) qf (if thR 1 1000 x = 0 then drK dk h n qf q x 0 else dk 0) (if thR 1 1000 x = 0 then drK dk h n qf q x 1 else dk 1) (if thR 1 1000 x = 0 then drK dk h n qf q x 2 else dk 2) (thR 1 1000 x) wd zs (if thR 1 1000 x = 0 then drH h n qf q x else h) kp) H := by rw [show thR 1 1000 x = 0 from if_neg (fun h9 => h9.elim c3 c10), if_pos rfl, if_pos rfl, if_pos rfl, if_pos rfl, if_pos rfl, (dr_yes (dk := dk) ho h0).1, (dr_yes (dk := dk) ho h0).2.1, show drK dk h n qf q x 0 = dk 0 + 0 from by rw [(dr_yes (dk := dk) ho h0).2.2, knd2 c78 c110, i32_add0]; rfl, show drK dk h n qf q x 1 = dk 1 + 0 from by rw [(dr_yes (dk := dk) ho h0).2.2, knd2 c78 c110, i32_add0]; rfl, show drK dk h n qf q x 2 = dk 2 + (takv h n qf q x) from by rw [(dr_yes (dk := dk) ho h0).2.2, knd2 c78 c110]; rfl, show tkH h b (botv (takv h n qf q x)) = vf_upd h b (FP.dsub (h b) (botv (takv h n qf q x))) from (tk_of1 (show b < 8 by omega) (emp0.mp c192)).symm]; exact hP
                have hD : va_D A (modW y aw az ah ak cI cD (nI n) wm ys (if thR 1 1000 x = 0 then drQ h n qf q x else q) qf (if thR 1 1000 x = 0 then drK dk h n qf q x 0 else dk 0) (if thR 1 1000 x = 0 then drK dk h n qf q x 1 else dk 1) (if thR 1 1000 x = 0 then drK dk h n qf q x 2 else dk 2) (thR 1 1000 x) wd zs (if thR 1 1000 x = 0 then drH h n qf q x else h) kp) := by rw [show thR 1 1000 x = 0 from if_neg (fun h9 => h9.elim c3 c10), if_pos rfl, if_pos rfl, if_pos rfl, if_pos rfl, if_pos rfl, (dr_yes (dk := dk) ho h0).1, (dr_yes (dk := dk) ho h0).2.1, show drK dk h n qf q x 0 = dk 0 + 0 from by rw [(dr_yes (dk := dk) ho h0).2.2, knd2 c78 c110, i32_add0]; rfl, show drK dk h n qf q x 1 = dk 1 + 0 from by rw [(dr_yes (dk := dk) ho h0).2.2, knd2 c78 c110, i32_add0]; rfl, show drK dk h n qf q x 2 = dk 2 + (takv h n qf q x) from by rw [(dr_yes (dk := dk) ho h0).2.2, knd2 c78 c110]; rfl, show tkH h b (botv (takv h n qf q x)) = vf_upd h b (FP.dsub (h b) (botv (takv h n qf q x))) from (tk_of1 (show b < 8 by omega) (emp0.mp c192)).symm]; exact hD
                exact W.iret hx hb hr (fun t ht hW => ⟨⟨_, (), rfl, by rw [show thR 1 1000 x = 0 from if_neg (fun h9 => h9.elim c3 c10), if_pos rfl], by rw [ht]; exact hP, va_K.moved hW.alike hK, hD⟩, hS.F ht⟩) hS.2.2 dX3_draw_202
              · refine lv_aload_n hx hb dX3_draw_195 rfl (lv_at hl 4 rfl) ?_
                refine lv_iload hx hb dX3_draw_196 (lv_at hl 1 rfl) ?_
                refine kw_v (va_runV (As := [.int (nI b)]) (rest := []) ⟨hx, hb, hml, hown, hts⟩ (metX3_empties l D H.size y aw az ah ak cI cD n (by omega) wm ys (FP.dsub q (botv (takv h n qf q x))) qf ((dk 0) + 0) ((dk 1) + 0) ((dk 2) + (takv h n qf q x)) 0 wd zs (vf_upd h b (FP.dsub (h b) (botv (takv h n qf q x)))) kp b (by omega)) (cwV 1 hts gX3_draw_X3_empties rfl rfl rfl (by decide +kernel) ⟨Nat.le_of_ble_eq_true rfl, Nat.le_of_ble_eq_true rfl⟩) (pmV 3 0 RX3 TX3 13 rfl rfl hP hK hD) rfl rfl hl.1 rfl (lv_room (Nat.le_of_ble_eq_true rfl)) dX3_draw_198 ⟨Nat.le_of_ble_eq_true rfl, Nat.le_of_ble_eq_true rfl⟩) hP hD hS hA (fun H locs hP hD hS => ?_)
                have hP : va_P D vwCl (modW y aw az ah ak cI cD (nI n) wm ys (FP.dsub q (botv (takv h n qf q x))) qf ((dk 0) + 0) ((dk 1) + 0) ((dk 2) + (takv h n qf q x)) 0 wd zs (hset (vf_upd h b (FP.dsub (h b) (botv (takv h n qf q x)))) b 0 0 0 0) kp) H := hP
                have hD : va_D A (modW y aw az ah ak cI cD (nI n) wm ys (FP.dsub q (botv (takv h n qf q x))) qf ((dk 0) + 0) ((dk 1) + 0) ((dk 2) + (takv h n qf q x)) 0 wd zs (hset (vf_upd h b (FP.dsub (h b) (botv (takv h n qf q x)))) b 0 0 0 0) kp) := hD
                refine lv_iload_n hx hb dX3_draw_201 rfl (lv_at hl 2 rfl) ?_
                have hP : va_P D vwCl (modW y aw az ah ak cI cD (nI n) wm ys (if thR 1 1000 x = 0 then drQ h n qf q x else q) qf (if thR 1 1000 x = 0 then drK dk h n qf q x 0 else dk 0) (if thR 1 1000 x = 0 then drK dk h n qf q x 1 else dk 1) (if thR 1 1000 x = 0 then drK dk h n qf q x 2 else dk 2) (thR 1 1000 x) wd zs (if thR 1 1000 x = 0 then drH h n qf q x else h) kp) H := by rw [show thR 1 1000 x = 0 from if_neg (fun h9 => h9.elim c3 c10), if_pos rfl, if_pos rfl, if_pos rfl, if_pos rfl, if_pos rfl, (dr_yes (dk := dk) ho h0).1, (dr_yes (dk := dk) ho h0).2.1, show drK dk h n qf q x 0 = dk 0 + 0 from by rw [(dr_yes (dk := dk) ho h0).2.2, knd2 c78 c110, i32_add0]; rfl, show drK dk h n qf q x 1 = dk 1 + 0 from by rw [(dr_yes (dk := dk) ho h0).2.2, knd2 c78 c110, i32_add0]; rfl, show drK dk h n qf q x 2 = dk 2 + (takv h n qf q x) from by rw [(dr_yes (dk := dk) ho h0).2.2, knd2 c78 c110]; rfl, show tkH h b (botv (takv h n qf q x)) = hset (vf_upd h b (FP.dsub (h b) (botv (takv h n qf q x)))) b 0 0 0 0 from (tk_of2 (show b < 8 by omega) (fun h9 => c192 (emp0.mpr h9))).symm]; exact hP
                have hD : va_D A (modW y aw az ah ak cI cD (nI n) wm ys (if thR 1 1000 x = 0 then drQ h n qf q x else q) qf (if thR 1 1000 x = 0 then drK dk h n qf q x 0 else dk 0) (if thR 1 1000 x = 0 then drK dk h n qf q x 1 else dk 1) (if thR 1 1000 x = 0 then drK dk h n qf q x 2 else dk 2) (thR 1 1000 x) wd zs (if thR 1 1000 x = 0 then drH h n qf q x else h) kp) := by rw [show thR 1 1000 x = 0 from if_neg (fun h9 => h9.elim c3 c10), if_pos rfl, if_pos rfl, if_pos rfl, if_pos rfl, if_pos rfl, (dr_yes (dk := dk) ho h0).1, (dr_yes (dk := dk) ho h0).2.1, show drK dk h n qf q x 0 = dk 0 + 0 from by rw [(dr_yes (dk := dk) ho h0).2.2, knd2 c78 c110, i32_add0]; rfl, show drK dk h n qf q x 1 = dk 1 + 0 from by rw [(dr_yes (dk := dk) ho h0).2.2, knd2 c78 c110, i32_add0]; rfl, show drK dk h n qf q x 2 = dk 2 + (takv h n qf q x) from by rw [(dr_yes (dk := dk) ho h0).2.2, knd2 c78 c110]; rfl, show tkH h b (botv (takv h n qf q x)) = hset (vf_upd h b (FP.dsub (h b) (botv (takv h n qf q x)))) b 0 0 0 0 from (tk_of2 (show b < 8 by omega) (fun h9 => c192 (emp0.mpr h9))).symm]; exact hD
                exact W.iret hx hb hr (fun t ht hW => ⟨⟨_, (), rfl, by rw [show thR 1 1000 x = 0 from if_neg (fun h9 => h9.elim c3 c10), if_pos rfl], by rw [ht]; exact hP, va_K.moved hW.alike hK, hD⟩, hS.F ht⟩) hS.2.2 dX3_draw_202
            · refine lv_iload_n hx hb dX3_draw_114 rfl (lv_at hl 2 rfl) ?_
              refine lv_goto (tgt := 119) hx hb dX3_draw_115 (by decide) ?_
              refine lv_iadd hx hb dX3_draw_119 ?_
              refine va_put (D := D) (ci := 3) (v := .int ((dk 1) + (takv h n qf q x))) (ty := .int) (C := RX3) (T := TX3) (N := 13) hx hb hts (by decide +kernel) tyX3 tyX3_ok nmX3 hown hK hP hD hS (0) rfl rfl 10 (by decide) (hts (.fieldLink RX3 131 "VinegarLoftModel" "ripe" "I") (by decide +kernel)) (fun _ h9 => h9) rfl (by decide +kernel) rfl rfl (Nat.le_of_ble_eq_true rfl) dX3_draw_120 (fun H locs hP hD hS => ?_)
              have hP : va_P D vwCl (modW y aw az ah ak cI cD (nI n) wm ys q qf ((dk 0) + 0) ((dk 1) + (takv h n qf q x)) (dk 2) 0 wd zs h kp) H := hP
              have hD : va_D A (modW y aw az ah ak cI cD (nI n) wm ys q qf ((dk 0) + 0) ((dk 1) + (takv h n qf q x)) (dk 2) 0 wd zs h kp) := hD
              refine lv_aload_n hx hb dX3_draw_123 rfl (lv_at hl 4 rfl) ?_
              refine lv_dup hx hb dX3_draw_124 rfl ?_
              refine va_get (D := D) (ci := 3) (v := .int (dk 2)) (C := RX3) (T := TX3) (N := 13) hx hb hts (by decide +kernel) hown hK hP (0) rfl rfl 11 (by decide) (hts (.fieldLink RX3 134 "VinegarLoftModel" "old" "I") (by decide +kernel)) (fun _ h9 => h9) rfl dX3_draw_125 ?_
              refine lv_dload hx hb dX3_draw_128 (lv_at hl 0 rfl) ?_
              refine lv_ldc2d hx hb hown (hts (.constantDouble RX3 108 4627730092099895296) (by decide +kernel)) dX3_draw_130 ?_
              refine kd_lt (tgt := 141) hx hb dX3_draw_133 dX3_draw_134 (by decide) (cmp_ne  (hN b hbn).2.ne (NN.ne (by unfold NN; decide +kernel))) (fun c133 => ?_) (fun c133 => absurd c110 c133)
              refine lv_iconst (v := 0) hx hb dX3_draw_141 (by decide) ?_
              refine lv_iadd hx hb dX3_draw_142 ?_
              refine va_put (D := D) (ci := 3) (v := .int ((dk 2) + 0)) (ty := .int) (C := RX3) (T := TX3) (N := 13) hx hb hts (by decide +kernel) tyX3 tyX3_ok nmX3 hown hK hP hD hS (0) rfl rfl 11 (by decide) (hts (.fieldLink RX3 134 "VinegarLoftModel" "old" "I") (by decide +kernel)) (fun _ h9 => h9) rfl (by decide +kernel) rfl rfl (Nat.le_of_ble_eq_true rfl) dX3_draw_143 (fun H locs hP hD hS => ?_)
              have hP : va_P D vwCl (modW y aw az ah ak cI cD (nI n) wm ys q qf ((dk 0) + 0) ((dk 1) + (takv h n qf q x)) ((dk 2) + 0) 0 wd zs h kp) H := hP
              have hD : va_D A (modW y aw az ah ak cI cD (nI n) wm ys q qf ((dk 0) + 0) ((dk 1) + (takv h n qf q x)) ((dk 2) + 0) 0 wd zs h kp) := hD
              refine lv_aload_n hx hb dX3_draw_146 rfl (lv_at hl 4 rfl) ?_
              refine lv_aload_n hx hb dX3_draw_147 rfl (lv_at hl 4 rfl) ?_
              refine va_get (D := D) (ci := 3) (v := .double q) (C := RX3) (T := TX3) (N := 13) hx hb hts (by decide +kernel) hown hK hP (0) rfl rfl 7 (by decide) (hts (.fieldLink RX3 104 "VinegarLoftModel" "quota" "D") (by decide +kernel)) (fun _ h9 => h9) rfl dX3_draw_148 ?_
              refine lv_iload_n hx hb dX3_draw_151 rfl (lv_at hl 2 rfl) ?_
              refine lv_i2d hx hb dX3_draw_152 ?_
              refine lv_ldc2d hx hb hown (hts (.constantDouble RX3 84 4591870180066957722) (by decide +kernel)) dX3_draw_153 ?_
              refine lv_dmul hx hb dX3_draw_156 d0 ?_
              refine kd_eq (show (FP.dmul (FP.i2d (takv h n qf q x)) 4591870180066957722) = botv (takv h n qf q x) from rfl) ?_
              refine lv_dsub hx hb dX3_draw_157 d1 ?_
              refine va_put (D := D) (ci := 3) (v := .double (FP.dsub q (botv (takv h n qf q x)))) (ty := .double) (C := RX3) (T := TX3) (N := 13) hx hb hts (by decide +kernel) tyX3 tyX3_ok nmX3 hown hK hP hD hS (0) rfl rfl 7 (by decide) (hts (.fieldLink RX3 104 "VinegarLoftModel" "quota" "D") (by decide +kernel)) (fun _ h9 => h9) rfl (by decide +kernel) rfl rfl (Nat.le_of_ble_eq_true rfl) dX3_draw_158 (fun H locs hP hD hS => ?_)
              have hP : va_P D vwCl (modW y aw az ah ak cI cD (nI n) wm ys (FP.dsub q (botv (takv h n qf q x))) qf ((dk 0) + 0) ((dk 1) + (takv h n qf q x)) ((dk 2) + 0) 0 wd zs h kp) H := hP
              have hD : va_D A (modW y aw az ah ak cI cD (nI n) wm ys (FP.dsub q (botv (takv h n qf q x))) qf ((dk 0) + 0) ((dk 1) + (takv h n qf q x)) ((dk 2) + 0) 0 wd zs h kp) := hD
              refine lv_aload_n hx hb dX3_draw_161 rfl (lv_at hl 4 rfl) ?_
              refine va_get (D := D) (ci := 3) (v := .ref ah) (C := RX3) (T := TX3) (N := 13) hx hb hts (by decide +kernel) hown hK hP (0) rfl rfl 2 (by decide) (hts (.fieldLink RX3 16 "VinegarLoftModel" "holds" "[D") (by decide +kernel)) (fun _ h9 => h9) rfl dX3_draw_162 ?_
              refine lv_iconst (v := 0) hx hb dX3_draw_165 (by decide) ?_
              refine lv_iload hx hb dX3_draw_166 (lv_at hl 1 rfl) ?_
              refine lv_iadd hx hb dX3_draw_168 ?_
              refine lv_aload_n hx hb dX3_draw_169 rfl (lv_at hl 4 rfl) ?_
              refine va_get (D := D) (ci := 3) (v := .ref ah) (C := RX3) (T := TX3) (N := 13) hx hb hts (by decide +kernel) hown hK hP (0) rfl rfl 2 (by decide) (hts (.fieldLink RX3 16 "VinegarLoftModel" "holds" "[D") (by decide +kernel)) (fun _ h9 => h9) rfl dX3_draw_170 ?_
              refine lv_iconst (v := 0) hx hb dX3_draw_173 (by decide) ?_
              refine lv_iload hx hb dX3_draw_174 (lv_at hl 1 rfl) ?_
              refine lv_iadd hx hb dX3_draw_176 ?_
              refine kx_dald hx hb hK hP 3 1 rfl rfl (j := b) (ix0 b) (show b < 32 by omega) (by decide) dX3_draw_177 ?_
              refine lv_iload_n hx hb dX3_draw_178 rfl (lv_at hl 2 rfl) ?_
              refine lv_i2d hx hb dX3_draw_179 ?_
              refine lv_ldc2d hx hb hown (hts (.constantDouble RX3 84 4591870180066957722) (by decide +kernel)) dX3_draw_180 ?_
              refine lv_dmul hx hb dX3_draw_183 d0 ?_
              refine kd_eq (show (FP.dmul (FP.i2d (takv h n qf q x)) 4591870180066957722) = botv (takv h n qf q x) from rfl) ?_
              refine lv_dsub hx hb dX3_draw_184 d2 ?_
              refine kx_dast hx hb hK hP hD hS 3 1 rfl rfl (j := b) (ix0 b) (show b < 32 by omega) (by decide) dX3_draw_185 (fun H locs hP hD hS => ?_)
              have hP : va_P D vwCl (modW y aw az ah ak cI cD (nI n) wm ys (FP.dsub q (botv (takv h n qf q x))) qf ((dk 0) + 0) ((dk 1) + (takv h n qf q x)) ((dk 2) + 0) 0 wd zs (vf_upd h b (FP.dsub (h b) (botv (takv h n qf q x)))) kp) H := hP
              have hD : va_D A (modW y aw az ah ak cI cD (nI n) wm ys (FP.dsub q (botv (takv h n qf q x))) qf ((dk 0) + 0) ((dk 1) + (takv h n qf q x)) ((dk 2) + 0) 0 wd zs (vf_upd h b (FP.dsub (h b) (botv (takv h n qf q x)))) kp) := hD
              refine lv_aload_n hx hb dX3_draw_186 rfl (lv_at hl 4 rfl) ?_
              refine lv_iload hx hb dX3_draw_187 (lv_at hl 1 rfl) ?_
              refine kr_i (W.runV (As := [.int (nI b)]) (rest := []) ⟨hx, hb, hml, hown, hts⟩ (metX3_isEmpty l D y aw az ah ak cI cD n (by omega) wm ys (FP.dsub q (botv (takv h n qf q x))) qf ((dk 0) + 0) ((dk 1) + (takv h n qf q x)) ((dk 2) + 0) 0 wd zs (vf_upd h b (FP.dsub (h b) (botv (takv h n qf q x)))) kp b (by omega) (show FP.dcmp ((vf_upd h b (FP.dsub (h b) (botv (takv h n qf q x)))) b) 0 ≠ none by rw [vu_s]; exact d3)) (cwV 1 hts gX3_draw_X3_isEmpty rfl rfl rfl (by decide +kernel) ⟨Nat.le_of_ble_eq_true rfl, Nat.le_of_ble_eq_true rfl⟩) (prV 3 0 RX3 TX3 13 rfl rfl hP hK) rfl rfl hl.1 rfl (lv_room (Nat.le_of_ble_eq_true rfl)) dX3_draw_189 ⟨Nat.le_of_ble_eq_true rfl, Nat.le_of_ble_eq_true rfl⟩) ?_
              refine ki_eq (show emp ((vf_upd h b (FP.dsub (h b) (botv (takv h n qf q x)))) b) = emp (FP.dsub (h b) (botv (takv h n qf q x))) from by rw [vu_s]) ?_
              refine lv_if_eq (tgt := 201) hx hb dX3_draw_192 (by decide) (fun c192 => ?_) (fun c192 => ?_)
              · refine lv_iload_n hx hb dX3_draw_201 rfl (lv_at hl 2 rfl) ?_
                have hP : va_P D vwCl (modW y aw az ah ak cI cD (nI n) wm ys (if thR 1 1000 x = 0 then drQ h n qf q x else q) qf (if thR 1 1000 x = 0 then drK dk h n qf q x 0 else dk 0) (if thR 1 1000 x = 0 then drK dk h n qf q x 1 else dk 1) (if thR 1 1000 x = 0 then drK dk h n qf q x 2 else dk 2) (thR 1 1000 x) wd zs (if thR 1 1000 x = 0 then drH h n qf q x else h) kp) H := by rw [show thR 1 1000 x = 0 from if_neg (fun h9 => h9.elim c3 c10), if_pos rfl, if_pos rfl, if_pos rfl, if_pos rfl, if_pos rfl, (dr_yes (dk := dk) ho h0).1, (dr_yes (dk := dk) ho h0).2.1, show drK dk h n qf q x 0 = dk 0 + 0 from by rw [(dr_yes (dk := dk) ho h0).2.2, knd1 c78 c110, i32_add0]; rfl, show drK dk h n qf q x 1 = dk 1 + (takv h n qf q x) from by rw [(dr_yes (dk := dk) ho h0).2.2, knd1 c78 c110]; rfl, show drK dk h n qf q x 2 = dk 2 + 0 from by rw [(dr_yes (dk := dk) ho h0).2.2, knd1 c78 c110, i32_add0]; rfl, show tkH h b (botv (takv h n qf q x)) = vf_upd h b (FP.dsub (h b) (botv (takv h n qf q x))) from (tk_of1 (show b < 8 by omega) (emp0.mp c192)).symm]; exact hP
                have hD : va_D A (modW y aw az ah ak cI cD (nI n) wm ys (if thR 1 1000 x = 0 then drQ h n qf q x else q) qf (if thR 1 1000 x = 0 then drK dk h n qf q x 0 else dk 0) (if thR 1 1000 x = 0 then drK dk h n qf q x 1 else dk 1) (if thR 1 1000 x = 0 then drK dk h n qf q x 2 else dk 2) (thR 1 1000 x) wd zs (if thR 1 1000 x = 0 then drH h n qf q x else h) kp) := by rw [show thR 1 1000 x = 0 from if_neg (fun h9 => h9.elim c3 c10), if_pos rfl, if_pos rfl, if_pos rfl, if_pos rfl, if_pos rfl, (dr_yes (dk := dk) ho h0).1, (dr_yes (dk := dk) ho h0).2.1, show drK dk h n qf q x 0 = dk 0 + 0 from by rw [(dr_yes (dk := dk) ho h0).2.2, knd1 c78 c110, i32_add0]; rfl, show drK dk h n qf q x 1 = dk 1 + (takv h n qf q x) from by rw [(dr_yes (dk := dk) ho h0).2.2, knd1 c78 c110]; rfl, show drK dk h n qf q x 2 = dk 2 + 0 from by rw [(dr_yes (dk := dk) ho h0).2.2, knd1 c78 c110, i32_add0]; rfl, show tkH h b (botv (takv h n qf q x)) = vf_upd h b (FP.dsub (h b) (botv (takv h n qf q x))) from (tk_of1 (show b < 8 by omega) (emp0.mp c192)).symm]; exact hD
                exact W.iret hx hb hr (fun t ht hW => ⟨⟨_, (), rfl, by rw [show thR 1 1000 x = 0 from if_neg (fun h9 => h9.elim c3 c10), if_pos rfl], by rw [ht]; exact hP, va_K.moved hW.alike hK, hD⟩, hS.F ht⟩) hS.2.2 dX3_draw_202
              · refine lv_aload_n hx hb dX3_draw_195 rfl (lv_at hl 4 rfl) ?_
                refine lv_iload hx hb dX3_draw_196 (lv_at hl 1 rfl) ?_
                refine kw_v (va_runV (As := [.int (nI b)]) (rest := []) ⟨hx, hb, hml, hown, hts⟩ (metX3_empties l D H.size y aw az ah ak cI cD n (by omega) wm ys (FP.dsub q (botv (takv h n qf q x))) qf ((dk 0) + 0) ((dk 1) + (takv h n qf q x)) ((dk 2) + 0) 0 wd zs (vf_upd h b (FP.dsub (h b) (botv (takv h n qf q x)))) kp b (by omega)) (cwV 1 hts gX3_draw_X3_empties rfl rfl rfl (by decide +kernel) ⟨Nat.le_of_ble_eq_true rfl, Nat.le_of_ble_eq_true rfl⟩) (pmV 3 0 RX3 TX3 13 rfl rfl hP hK hD) rfl rfl hl.1 rfl (lv_room (Nat.le_of_ble_eq_true rfl)) dX3_draw_198 ⟨Nat.le_of_ble_eq_true rfl, Nat.le_of_ble_eq_true rfl⟩) hP hD hS hA (fun H locs hP hD hS => ?_)
                have hP : va_P D vwCl (modW y aw az ah ak cI cD (nI n) wm ys (FP.dsub q (botv (takv h n qf q x))) qf ((dk 0) + 0) ((dk 1) + (takv h n qf q x)) ((dk 2) + 0) 0 wd zs (hset (vf_upd h b (FP.dsub (h b) (botv (takv h n qf q x)))) b 0 0 0 0) kp) H := hP
                have hD : va_D A (modW y aw az ah ak cI cD (nI n) wm ys (FP.dsub q (botv (takv h n qf q x))) qf ((dk 0) + 0) ((dk 1) + (takv h n qf q x)) ((dk 2) + 0) 0 wd zs (hset (vf_upd h b (FP.dsub (h b) (botv (takv h n qf q x)))) b 0 0 0 0) kp) := hD
                refine lv_iload_n hx hb dX3_draw_201 rfl (lv_at hl 2 rfl) ?_
                have hP : va_P D vwCl (modW y aw az ah ak cI cD (nI n) wm ys (if thR 1 1000 x = 0 then drQ h n qf q x else q) qf (if thR 1 1000 x = 0 then drK dk h n qf q x 0 else dk 0) (if thR 1 1000 x = 0 then drK dk h n qf q x 1 else dk 1) (if thR 1 1000 x = 0 then drK dk h n qf q x 2 else dk 2) (thR 1 1000 x) wd zs (if thR 1 1000 x = 0 then drH h n qf q x else h) kp) H := by rw [show thR 1 1000 x = 0 from if_neg (fun h9 => h9.elim c3 c10), if_pos rfl, if_pos rfl, if_pos rfl, if_pos rfl, if_pos rfl, (dr_yes (dk := dk) ho h0).1, (dr_yes (dk := dk) ho h0).2.1, show drK dk h n qf q x 0 = dk 0 + 0 from by rw [(dr_yes (dk := dk) ho h0).2.2, knd1 c78 c110, i32_add0]; rfl, show drK dk h n qf q x 1 = dk 1 + (takv h n qf q x) from by rw [(dr_yes (dk := dk) ho h0).2.2, knd1 c78 c110]; rfl, show drK dk h n qf q x 2 = dk 2 + 0 from by rw [(dr_yes (dk := dk) ho h0).2.2, knd1 c78 c110, i32_add0]; rfl, show tkH h b (botv (takv h n qf q x)) = hset (vf_upd h b (FP.dsub (h b) (botv (takv h n qf q x)))) b 0 0 0 0 from (tk_of2 (show b < 8 by omega) (fun h9 => c192 (emp0.mpr h9))).symm]; exact hP
                have hD : va_D A (modW y aw az ah ak cI cD (nI n) wm ys (if thR 1 1000 x = 0 then drQ h n qf q x else q) qf (if thR 1 1000 x = 0 then drK dk h n qf q x 0 else dk 0) (if thR 1 1000 x = 0 then drK dk h n qf q x 1 else dk 1) (if thR 1 1000 x = 0 then drK dk h n qf q x 2 else dk 2) (thR 1 1000 x) wd zs (if thR 1 1000 x = 0 then drH h n qf q x else h) kp) := by rw [show thR 1 1000 x = 0 from if_neg (fun h9 => h9.elim c3 c10), if_pos rfl, if_pos rfl, if_pos rfl, if_pos rfl, if_pos rfl, (dr_yes (dk := dk) ho h0).1, (dr_yes (dk := dk) ho h0).2.1, show drK dk h n qf q x 0 = dk 0 + 0 from by rw [(dr_yes (dk := dk) ho h0).2.2, knd1 c78 c110, i32_add0]; rfl, show drK dk h n qf q x 1 = dk 1 + (takv h n qf q x) from by rw [(dr_yes (dk := dk) ho h0).2.2, knd1 c78 c110]; rfl, show drK dk h n qf q x 2 = dk 2 + 0 from by rw [(dr_yes (dk := dk) ho h0).2.2, knd1 c78 c110, i32_add0]; rfl, show tkH h b (botv (takv h n qf q x)) = hset (vf_upd h b (FP.dsub (h b) (botv (takv h n qf q x)))) b 0 0 0 0 from (tk_of2 (show b < 8 by omega) (fun h9 => c192 (emp0.mpr h9))).symm]; exact hD
                exact W.iret hx hb hr (fun t ht hW => ⟨⟨_, (), rfl, by rw [show thR 1 1000 x = 0 from if_neg (fun h9 => h9.elim c3 c10), if_pos rfl], by rw [ht]; exact hP, va_K.moved hW.alike hK, hD⟩, hS.F ht⟩) hS.2.2 dX3_draw_202
          · refine lv_iload_n hx hb dX3_draw_82 rfl (lv_at hl 2 rfl) ?_
            refine lv_goto (tgt := 87) hx hb dX3_draw_83 (by decide) ?_
            refine lv_iadd hx hb dX3_draw_87 ?_
            refine va_put (D := D) (ci := 3) (v := .int ((dk 0) + (takv h n qf q x))) (ty := .int) (C := RX3) (T := TX3) (N := 13) hx hb hts (by decide +kernel) tyX3 tyX3_ok nmX3 hown hK hP hD hS (0) rfl rfl 9 (by decide) (hts (.fieldLink RX3 126 "VinegarLoftModel" "young" "I") (by decide +kernel)) (fun _ h9 => h9) rfl (by decide +kernel) rfl rfl (Nat.le_of_ble_eq_true rfl) dX3_draw_88 (fun H locs hP hD hS => ?_)
            have hP : va_P D vwCl (modW y aw az ah ak cI cD (nI n) wm ys q qf ((dk 0) + (takv h n qf q x)) (dk 1) (dk 2) 0 wd zs h kp) H := hP
            have hD : va_D A (modW y aw az ah ak cI cD (nI n) wm ys q qf ((dk 0) + (takv h n qf q x)) (dk 1) (dk 2) 0 wd zs h kp) := hD
            refine lv_aload_n hx hb dX3_draw_91 rfl (lv_at hl 4 rfl) ?_
            refine lv_dup hx hb dX3_draw_92 rfl ?_
            refine va_get (D := D) (ci := 3) (v := .int (dk 1)) (C := RX3) (T := TX3) (N := 13) hx hb hts (by decide +kernel) hown hK hP (0) rfl rfl 10 (by decide) (hts (.fieldLink RX3 131 "VinegarLoftModel" "ripe" "I") (by decide +kernel)) (fun _ h9 => h9) rfl dX3_draw_93 ?_
            refine lv_dload hx hb dX3_draw_96 (lv_at hl 0 rfl) ?_
            refine lv_ldc2d hx hb hown (hts (.constantDouble RX3 129 4625759767262920704) (by decide +kernel)) dX3_draw_98 ?_
            refine kd_lt (tgt := 118) hx hb dX3_draw_101 dX3_draw_102 (by decide) (cmp_ne  (hN b hbn).2.ne (NN.ne (by unfold NN; decide +kernel))) (fun c101 => ?_) (fun c101 => absurd c78 c101)
            refine lv_iconst (v := 0) hx hb dX3_draw_118 (by decide) ?_
            refine lv_iadd hx hb dX3_draw_119 ?_
            refine va_put (D := D) (ci := 3) (v := .int ((dk 1) + 0)) (ty := .int) (C := RX3) (T := TX3) (N := 13) hx hb hts (by decide +kernel) tyX3 tyX3_ok nmX3 hown hK hP hD hS (0) rfl rfl 10 (by decide) (hts (.fieldLink RX3 131 "VinegarLoftModel" "ripe" "I") (by decide +kernel)) (fun _ h9 => h9) rfl (by decide +kernel) rfl rfl (Nat.le_of_ble_eq_true rfl) dX3_draw_120 (fun H locs hP hD hS => ?_)
            have hP : va_P D vwCl (modW y aw az ah ak cI cD (nI n) wm ys q qf ((dk 0) + (takv h n qf q x)) ((dk 1) + 0) (dk 2) 0 wd zs h kp) H := hP
            have hD : va_D A (modW y aw az ah ak cI cD (nI n) wm ys q qf ((dk 0) + (takv h n qf q x)) ((dk 1) + 0) (dk 2) 0 wd zs h kp) := hD
            refine lv_aload_n hx hb dX3_draw_123 rfl (lv_at hl 4 rfl) ?_
            refine lv_dup hx hb dX3_draw_124 rfl ?_
            refine va_get (D := D) (ci := 3) (v := .int (dk 2)) (C := RX3) (T := TX3) (N := 13) hx hb hts (by decide +kernel) hown hK hP (0) rfl rfl 11 (by decide) (hts (.fieldLink RX3 134 "VinegarLoftModel" "old" "I") (by decide +kernel)) (fun _ h9 => h9) rfl dX3_draw_125 ?_
            refine lv_dload hx hb dX3_draw_128 (lv_at hl 0 rfl) ?_
            refine lv_ldc2d hx hb hown (hts (.constantDouble RX3 108 4627730092099895296) (by decide +kernel)) dX3_draw_130 ?_
            refine kd_lt (tgt := 141) hx hb dX3_draw_133 dX3_draw_134 (by decide) (cmp_ne  (hN b hbn).2.ne (NN.ne (by unfold NN; decide +kernel))) (fun c133 => ?_) (fun c133 => absurd (lt18_25 (hN b hbn).2 c78) c133)
            refine lv_iconst (v := 0) hx hb dX3_draw_141 (by decide) ?_
            refine lv_iadd hx hb dX3_draw_142 ?_
            refine va_put (D := D) (ci := 3) (v := .int ((dk 2) + 0)) (ty := .int) (C := RX3) (T := TX3) (N := 13) hx hb hts (by decide +kernel) tyX3 tyX3_ok nmX3 hown hK hP hD hS (0) rfl rfl 11 (by decide) (hts (.fieldLink RX3 134 "VinegarLoftModel" "old" "I") (by decide +kernel)) (fun _ h9 => h9) rfl (by decide +kernel) rfl rfl (Nat.le_of_ble_eq_true rfl) dX3_draw_143 (fun H locs hP hD hS => ?_)
            have hP : va_P D vwCl (modW y aw az ah ak cI cD (nI n) wm ys q qf ((dk 0) + (takv h n qf q x)) ((dk 1) + 0) ((dk 2) + 0) 0 wd zs h kp) H := hP
            have hD : va_D A (modW y aw az ah ak cI cD (nI n) wm ys q qf ((dk 0) + (takv h n qf q x)) ((dk 1) + 0) ((dk 2) + 0) 0 wd zs h kp) := hD
            refine lv_aload_n hx hb dX3_draw_146 rfl (lv_at hl 4 rfl) ?_
            refine lv_aload_n hx hb dX3_draw_147 rfl (lv_at hl 4 rfl) ?_
            refine va_get (D := D) (ci := 3) (v := .double q) (C := RX3) (T := TX3) (N := 13) hx hb hts (by decide +kernel) hown hK hP (0) rfl rfl 7 (by decide) (hts (.fieldLink RX3 104 "VinegarLoftModel" "quota" "D") (by decide +kernel)) (fun _ h9 => h9) rfl dX3_draw_148 ?_
            refine lv_iload_n hx hb dX3_draw_151 rfl (lv_at hl 2 rfl) ?_
            refine lv_i2d hx hb dX3_draw_152 ?_
            refine lv_ldc2d hx hb hown (hts (.constantDouble RX3 84 4591870180066957722) (by decide +kernel)) dX3_draw_153 ?_
            refine lv_dmul hx hb dX3_draw_156 d0 ?_
            refine kd_eq (show (FP.dmul (FP.i2d (takv h n qf q x)) 4591870180066957722) = botv (takv h n qf q x) from rfl) ?_
            refine lv_dsub hx hb dX3_draw_157 d1 ?_
            refine va_put (D := D) (ci := 3) (v := .double (FP.dsub q (botv (takv h n qf q x)))) (ty := .double) (C := RX3) (T := TX3) (N := 13) hx hb hts (by decide +kernel) tyX3 tyX3_ok nmX3 hown hK hP hD hS (0) rfl rfl 7 (by decide) (hts (.fieldLink RX3 104 "VinegarLoftModel" "quota" "D") (by decide +kernel)) (fun _ h9 => h9) rfl (by decide +kernel) rfl rfl (Nat.le_of_ble_eq_true rfl) dX3_draw_158 (fun H locs hP hD hS => ?_)
            have hP : va_P D vwCl (modW y aw az ah ak cI cD (nI n) wm ys (FP.dsub q (botv (takv h n qf q x))) qf ((dk 0) + (takv h n qf q x)) ((dk 1) + 0) ((dk 2) + 0) 0 wd zs h kp) H := hP
            have hD : va_D A (modW y aw az ah ak cI cD (nI n) wm ys (FP.dsub q (botv (takv h n qf q x))) qf ((dk 0) + (takv h n qf q x)) ((dk 1) + 0) ((dk 2) + 0) 0 wd zs h kp) := hD
            refine lv_aload_n hx hb dX3_draw_161 rfl (lv_at hl 4 rfl) ?_
            refine va_get (D := D) (ci := 3) (v := .ref ah) (C := RX3) (T := TX3) (N := 13) hx hb hts (by decide +kernel) hown hK hP (0) rfl rfl 2 (by decide) (hts (.fieldLink RX3 16 "VinegarLoftModel" "holds" "[D") (by decide +kernel)) (fun _ h9 => h9) rfl dX3_draw_162 ?_
            refine lv_iconst (v := 0) hx hb dX3_draw_165 (by decide) ?_
            refine lv_iload hx hb dX3_draw_166 (lv_at hl 1 rfl) ?_
            refine lv_iadd hx hb dX3_draw_168 ?_
            refine lv_aload_n hx hb dX3_draw_169 rfl (lv_at hl 4 rfl) ?_
            refine va_get (D := D) (ci := 3) (v := .ref ah) (C := RX3) (T := TX3) (N := 13) hx hb hts (by decide +kernel) hown hK hP (0) rfl rfl 2 (by decide) (hts (.fieldLink RX3 16 "VinegarLoftModel" "holds" "[D") (by decide +kernel)) (fun _ h9 => h9) rfl dX3_draw_170 ?_
            refine lv_iconst (v := 0) hx hb dX3_draw_173 (by decide) ?_
            refine lv_iload hx hb dX3_draw_174 (lv_at hl 1 rfl) ?_
            refine lv_iadd hx hb dX3_draw_176 ?_
            refine kx_dald hx hb hK hP 3 1 rfl rfl (j := b) (ix0 b) (show b < 32 by omega) (by decide) dX3_draw_177 ?_
            refine lv_iload_n hx hb dX3_draw_178 rfl (lv_at hl 2 rfl) ?_
            refine lv_i2d hx hb dX3_draw_179 ?_
            refine lv_ldc2d hx hb hown (hts (.constantDouble RX3 84 4591870180066957722) (by decide +kernel)) dX3_draw_180 ?_
            refine lv_dmul hx hb dX3_draw_183 d0 ?_
            refine kd_eq (show (FP.dmul (FP.i2d (takv h n qf q x)) 4591870180066957722) = botv (takv h n qf q x) from rfl) ?_
            refine lv_dsub hx hb dX3_draw_184 d2 ?_
            refine kx_dast hx hb hK hP hD hS 3 1 rfl rfl (j := b) (ix0 b) (show b < 32 by omega) (by decide) dX3_draw_185 (fun H locs hP hD hS => ?_)
            have hP : va_P D vwCl (modW y aw az ah ak cI cD (nI n) wm ys (FP.dsub q (botv (takv h n qf q x))) qf ((dk 0) + (takv h n qf q x)) ((dk 1) + 0) ((dk 2) + 0) 0 wd zs (vf_upd h b (FP.dsub (h b) (botv (takv h n qf q x)))) kp) H := hP
            have hD : va_D A (modW y aw az ah ak cI cD (nI n) wm ys (FP.dsub q (botv (takv h n qf q x))) qf ((dk 0) + (takv h n qf q x)) ((dk 1) + 0) ((dk 2) + 0) 0 wd zs (vf_upd h b (FP.dsub (h b) (botv (takv h n qf q x)))) kp) := hD
            refine lv_aload_n hx hb dX3_draw_186 rfl (lv_at hl 4 rfl) ?_
            refine lv_iload hx hb dX3_draw_187 (lv_at hl 1 rfl) ?_
            refine kr_i (W.runV (As := [.int (nI b)]) (rest := []) ⟨hx, hb, hml, hown, hts⟩ (metX3_isEmpty l D y aw az ah ak cI cD n (by omega) wm ys (FP.dsub q (botv (takv h n qf q x))) qf ((dk 0) + (takv h n qf q x)) ((dk 1) + 0) ((dk 2) + 0) 0 wd zs (vf_upd h b (FP.dsub (h b) (botv (takv h n qf q x)))) kp b (by omega) (show FP.dcmp ((vf_upd h b (FP.dsub (h b) (botv (takv h n qf q x)))) b) 0 ≠ none by rw [vu_s]; exact d3)) (cwV 1 hts gX3_draw_X3_isEmpty rfl rfl rfl (by decide +kernel) ⟨Nat.le_of_ble_eq_true rfl, Nat.le_of_ble_eq_true rfl⟩) (prV 3 0 RX3 TX3 13 rfl rfl hP hK) rfl rfl hl.1 rfl (lv_room (Nat.le_of_ble_eq_true rfl)) dX3_draw_189 ⟨Nat.le_of_ble_eq_true rfl, Nat.le_of_ble_eq_true rfl⟩) ?_
            refine ki_eq (show emp ((vf_upd h b (FP.dsub (h b) (botv (takv h n qf q x)))) b) = emp (FP.dsub (h b) (botv (takv h n qf q x))) from by rw [vu_s]) ?_
            refine lv_if_eq (tgt := 201) hx hb dX3_draw_192 (by decide) (fun c192 => ?_) (fun c192 => ?_)
            · refine lv_iload_n hx hb dX3_draw_201 rfl (lv_at hl 2 rfl) ?_
              have hP : va_P D vwCl (modW y aw az ah ak cI cD (nI n) wm ys (if thR 1 1000 x = 0 then drQ h n qf q x else q) qf (if thR 1 1000 x = 0 then drK dk h n qf q x 0 else dk 0) (if thR 1 1000 x = 0 then drK dk h n qf q x 1 else dk 1) (if thR 1 1000 x = 0 then drK dk h n qf q x 2 else dk 2) (thR 1 1000 x) wd zs (if thR 1 1000 x = 0 then drH h n qf q x else h) kp) H := by rw [show thR 1 1000 x = 0 from if_neg (fun h9 => h9.elim c3 c10), if_pos rfl, if_pos rfl, if_pos rfl, if_pos rfl, if_pos rfl, (dr_yes (dk := dk) ho h0).1, (dr_yes (dk := dk) ho h0).2.1, show drK dk h n qf q x 0 = dk 0 + (takv h n qf q x) from by rw [(dr_yes (dk := dk) ho h0).2.2, knd0 c78]; rfl, show drK dk h n qf q x 1 = dk 1 + 0 from by rw [(dr_yes (dk := dk) ho h0).2.2, knd0 c78, i32_add0]; rfl, show drK dk h n qf q x 2 = dk 2 + 0 from by rw [(dr_yes (dk := dk) ho h0).2.2, knd0 c78, i32_add0]; rfl, show tkH h b (botv (takv h n qf q x)) = vf_upd h b (FP.dsub (h b) (botv (takv h n qf q x))) from (tk_of1 (show b < 8 by omega) (emp0.mp c192)).symm]; exact hP
              have hD : va_D A (modW y aw az ah ak cI cD (nI n) wm ys (if thR 1 1000 x = 0 then drQ h n qf q x else q) qf (if thR 1 1000 x = 0 then drK dk h n qf q x 0 else dk 0) (if thR 1 1000 x = 0 then drK dk h n qf q x 1 else dk 1) (if thR 1 1000 x = 0 then drK dk h n qf q x 2 else dk 2) (thR 1 1000 x) wd zs (if thR 1 1000 x = 0 then drH h n qf q x else h) kp) := by rw [show thR 1 1000 x = 0 from if_neg (fun h9 => h9.elim c3 c10), if_pos rfl, if_pos rfl, if_pos rfl, if_pos rfl, if_pos rfl, (dr_yes (dk := dk) ho h0).1, (dr_yes (dk := dk) ho h0).2.1, show drK dk h n qf q x 0 = dk 0 + (takv h n qf q x) from by rw [(dr_yes (dk := dk) ho h0).2.2, knd0 c78]; rfl, show drK dk h n qf q x 1 = dk 1 + 0 from by rw [(dr_yes (dk := dk) ho h0).2.2, knd0 c78, i32_add0]; rfl, show drK dk h n qf q x 2 = dk 2 + 0 from by rw [(dr_yes (dk := dk) ho h0).2.2, knd0 c78, i32_add0]; rfl, show tkH h b (botv (takv h n qf q x)) = vf_upd h b (FP.dsub (h b) (botv (takv h n qf q x))) from (tk_of1 (show b < 8 by omega) (emp0.mp c192)).symm]; exact hD
              exact W.iret hx hb hr (fun t ht hW => ⟨⟨_, (), rfl, by rw [show thR 1 1000 x = 0 from if_neg (fun h9 => h9.elim c3 c10), if_pos rfl], by rw [ht]; exact hP, va_K.moved hW.alike hK, hD⟩, hS.F ht⟩) hS.2.2 dX3_draw_202
            · refine lv_aload_n hx hb dX3_draw_195 rfl (lv_at hl 4 rfl) ?_
              refine lv_iload hx hb dX3_draw_196 (lv_at hl 1 rfl) ?_
              refine kw_v (va_runV (As := [.int (nI b)]) (rest := []) ⟨hx, hb, hml, hown, hts⟩ (metX3_empties l D H.size y aw az ah ak cI cD n (by omega) wm ys (FP.dsub q (botv (takv h n qf q x))) qf ((dk 0) + (takv h n qf q x)) ((dk 1) + 0) ((dk 2) + 0) 0 wd zs (vf_upd h b (FP.dsub (h b) (botv (takv h n qf q x)))) kp b (by omega)) (cwV 1 hts gX3_draw_X3_empties rfl rfl rfl (by decide +kernel) ⟨Nat.le_of_ble_eq_true rfl, Nat.le_of_ble_eq_true rfl⟩) (pmV 3 0 RX3 TX3 13 rfl rfl hP hK hD) rfl rfl hl.1 rfl (lv_room (Nat.le_of_ble_eq_true rfl)) dX3_draw_198 ⟨Nat.le_of_ble_eq_true rfl, Nat.le_of_ble_eq_true rfl⟩) hP hD hS hA (fun H locs hP hD hS => ?_)
              have hP : va_P D vwCl (modW y aw az ah ak cI cD (nI n) wm ys (FP.dsub q (botv (takv h n qf q x))) qf ((dk 0) + (takv h n qf q x)) ((dk 1) + 0) ((dk 2) + 0) 0 wd zs (hset (vf_upd h b (FP.dsub (h b) (botv (takv h n qf q x)))) b 0 0 0 0) kp) H := hP
              have hD : va_D A (modW y aw az ah ak cI cD (nI n) wm ys (FP.dsub q (botv (takv h n qf q x))) qf ((dk 0) + (takv h n qf q x)) ((dk 1) + 0) ((dk 2) + 0) 0 wd zs (hset (vf_upd h b (FP.dsub (h b) (botv (takv h n qf q x)))) b 0 0 0 0) kp) := hD
              refine lv_iload_n hx hb dX3_draw_201 rfl (lv_at hl 2 rfl) ?_
              have hP : va_P D vwCl (modW y aw az ah ak cI cD (nI n) wm ys (if thR 1 1000 x = 0 then drQ h n qf q x else q) qf (if thR 1 1000 x = 0 then drK dk h n qf q x 0 else dk 0) (if thR 1 1000 x = 0 then drK dk h n qf q x 1 else dk 1) (if thR 1 1000 x = 0 then drK dk h n qf q x 2 else dk 2) (thR 1 1000 x) wd zs (if thR 1 1000 x = 0 then drH h n qf q x else h) kp) H := by rw [show thR 1 1000 x = 0 from if_neg (fun h9 => h9.elim c3 c10), if_pos rfl, if_pos rfl, if_pos rfl, if_pos rfl, if_pos rfl, (dr_yes (dk := dk) ho h0).1, (dr_yes (dk := dk) ho h0).2.1, show drK dk h n qf q x 0 = dk 0 + (takv h n qf q x) from by rw [(dr_yes (dk := dk) ho h0).2.2, knd0 c78]; rfl, show drK dk h n qf q x 1 = dk 1 + 0 from by rw [(dr_yes (dk := dk) ho h0).2.2, knd0 c78, i32_add0]; rfl, show drK dk h n qf q x 2 = dk 2 + 0 from by rw [(dr_yes (dk := dk) ho h0).2.2, knd0 c78, i32_add0]; rfl, show tkH h b (botv (takv h n qf q x)) = hset (vf_upd h b (FP.dsub (h b) (botv (takv h n qf q x)))) b 0 0 0 0 from (tk_of2 (show b < 8 by omega) (fun h9 => c192 (emp0.mpr h9))).symm]; exact hP
              have hD : va_D A (modW y aw az ah ak cI cD (nI n) wm ys (if thR 1 1000 x = 0 then drQ h n qf q x else q) qf (if thR 1 1000 x = 0 then drK dk h n qf q x 0 else dk 0) (if thR 1 1000 x = 0 then drK dk h n qf q x 1 else dk 1) (if thR 1 1000 x = 0 then drK dk h n qf q x 2 else dk 2) (thR 1 1000 x) wd zs (if thR 1 1000 x = 0 then drH h n qf q x else h) kp) := by rw [show thR 1 1000 x = 0 from if_neg (fun h9 => h9.elim c3 c10), if_pos rfl, if_pos rfl, if_pos rfl, if_pos rfl, if_pos rfl, (dr_yes (dk := dk) ho h0).1, (dr_yes (dk := dk) ho h0).2.1, show drK dk h n qf q x 0 = dk 0 + (takv h n qf q x) from by rw [(dr_yes (dk := dk) ho h0).2.2, knd0 c78]; rfl, show drK dk h n qf q x 1 = dk 1 + 0 from by rw [(dr_yes (dk := dk) ho h0).2.2, knd0 c78, i32_add0]; rfl, show drK dk h n qf q x 2 = dk 2 + 0 from by rw [(dr_yes (dk := dk) ho h0).2.2, knd0 c78, i32_add0]; rfl, show tkH h b (botv (takv h n qf q x)) = hset (vf_upd h b (FP.dsub (h b) (botv (takv h n qf q x)))) b 0 0 0 0 from (tk_of2 (show b < 8 by omega) (fun h9 => c192 (emp0.mpr h9))).symm]; exact hD
              exact W.iret hx hb hr (fun t ht hW => ⟨⟨_, (), rfl, by rw [show thR 1 1000 x = 0 from if_neg (fun h9 => h9.elim c3 c10), if_pos rfl], by rw [ht]; exact hP, va_K.moved hW.alike hK, hD⟩, hS.F ht⟩) hS.2.2 dX3_draw_202

set_option maxHeartbeats 4000000 in
set_option maxRecDepth 100000 in
theorem metX3_pourAway (l : Launch) (D : va_G) (sz : Nat) (y aw az ah ak : Nat) (cI cD : ClassId) (n : Nat) (hn : n ≤ 8) (wm ys : Int32) (q : UInt64) (qf yo ri ol th : Int32) (wd zs : Nat → Int32) (h kp : Nat → UInt64) (x : Int32)  : Met l yX3_pourAway wsX3_pourAway { frames := 1, cells := 0, slots := 0, locals := 21 } (Pm D [(cI, .int), (cD, .double)] [.ref y, .int x] (modW y aw az ah ak cI cD (nI n) wm ys q qf yo ri ol th wd zs h kp) sz) (va_Qd (fun (r : UInt64) (_ : Unit) => r = if thI n x = 0 then h x.toNatClampNeg else 0) (Bm D [(cI, .int), (cD, .double)] (va_A (modW y aw az ah ak cI cD (nI n) wm ys q qf yo ri ol th wd zs h kp) sz) (modW y aw az ah ak cI cD (nI n) wm ys q qf yo ri ol (thI n x) wd zs (if thI n x = 0 then hset h x.toNatClampNeg 0 0 0 0 else h) kp)) (va_A (modW y aw az ah ak cI cD (nI n) wm ys q qf yo ri ol th wd zs h kp) sz)) 0 0 (va_A (modW y aw az ah ak cI cD (nI n) wm ys q qf yo ri ol th wd zs h kp) sz) := by
  refine Met.ofW (cc := cX3_pourAway) (maxL := 4) (ret := (some .double)) (by decide) rfl ?_
  intro p e s m args below meth c s₁ B hml hv
  obtain ⟨rfl, hsz, hP, hK, hD0⟩ := hv
  have hx := B.exec
  have hb := B.bytes
  have hr := B.returns
  have hts := atoms_spec (ws := wsX3_pourAway) B.pre
  have hown : s.vm.findClass RX3 = some m.cls := findClass_of_methodNamed B.named
  have hlocks := B.notSynchronized
  subst hsz
  have hD := hD0.self (sz := s.heap.size)
  generalize hAe : va_A (modW y aw az ah ak cI cD (nI n) wm ys q qf yo ri ol th wd zs h kp) s.heap.size = A at hD ⊢
  have hA : ∀ q : Nat, s.heap.size ≤ q → A q := fun q h => by rw [← hAe]; exact Or.inr h
  refine kW_H (fun H hH => ?_)
  have hP : va_P D vwCl (modW y aw az ah ak cI cD (nI n) wm ys q qf yo ri ol th wd zs h kp) H := by rw [hH]; exact hP
  have hS : va_S A s.heap H [] := by rw [hH]; exact va_S.rf
  have hl := lv_entry ([.ref y, .int x]) (n := 4) (Nat.le_of_ble_eq_true rfl)
  rw [lg_entry_eq]
  generalize (lg_sl ([.ref y, .int x]) ++ List.replicate (4 - (lg_sl ([.ref y, .int x])).length) Slot.unset).toArray = ls at hl ⊢
  have hl : lv_has ls 4 [(0, .ref y), (1, .int x)] := hl
  refine lv_aload_n hx hb dX3_pourAway_0 rfl (lv_at hl 0 rfl) ?_
  refine lv_iload_n hx hb dX3_pourAway_1 rfl (lv_at hl 1 rfl) ?_
  by_cases g : badI n x
  · refine kw_i (va_runV (As := [.int x]) (rest := []) ⟨hx, hb, hml, hown, hts⟩ (metX3_isThere l D H.size y aw az ah ak cI cD n (by omega) wm ys q qf yo ri ol th wd zs h kp x) (cwV 1 hts gX3_pourAway_X3_isThere rfl rfl rfl (by decide +kernel) ⟨Nat.le_of_ble_eq_true rfl, Nat.le_of_ble_eq_true rfl⟩) (pmV 3 0 RX3 TX3 13 rfl rfl hP hK hD) rfl rfl hl.1 rfl (lv_room (Nat.le_of_ble_eq_true rfl)) dX3_pourAway_2 ⟨Nat.le_of_ble_eq_true rfl, Nat.le_of_ble_eq_true rfl⟩) hP hD hS hA (fun H locs hP hD hS => ?_)
    have hP : va_P D vwCl (modW y aw az ah ak cI cD (nI n) wm ys q qf yo ri ol (thI n x) wd zs h kp) H := hP
    have hD : va_D A (modW y aw az ah ak cI cD (nI n) wm ys q qf yo ri ol (thI n x) wd zs h kp) := hD
    refine ki_eq (show (if thI n x = 0 then (1 : Int32) else 0) = 0 from by rw [thI_y g]; rfl) ?_
    rw [thI_y g] at hP hD
    have hP : va_P D vwCl (modW y aw az ah ak cI cD (nI n) wm ys q qf yo ri ol 1 wd zs h kp) H := hP
    have hD : va_D A (modW y aw az ah ak cI cD (nI n) wm ys q qf yo ri ol 1 wd zs h kp) := hD
    refine lv_if_ne (tgt := 10) hx hb dX3_pourAway_5 (by decide) (fun c5 => absurd c5 (fun h9 => h9 rfl)) (fun c5 => ?_)
    refine kd_0 hx hb dX3_pourAway_8 ?_
    have hP : va_P D vwCl (modW y aw az ah ak cI cD (nI n) wm ys q qf yo ri ol (thI n x) wd zs (if thI n x = 0 then hset h x.toNatClampNeg 0 0 0 0 else h) kp) H := by rw [thI_y g, if_neg (by decide)]; exact hP
    have hD : va_D A (modW y aw az ah ak cI cD (nI n) wm ys q qf yo ri ol (thI n x) wd zs (if thI n x = 0 then hset h x.toNatClampNeg 0 0 0 0 else h) kp) := by rw [thI_y g, if_neg (by decide)]; exact hD
    exact W.dret hx hb hr (fun t ht hW => ⟨⟨_, (), rfl, by rw [thI_y g, if_neg (by decide)], by rw [ht]; exact hP, va_K.moved hW.alike hK, hD⟩, hS.F ht⟩) hS.2.2 dX3_pourAway_9
  · obtain ⟨j, hj, hxj⟩ := badI_nat hn g
    subst hxj
    have hl : lv_has ls 4 [(0, .ref y), (1, .int (nI j))] := hl
    refine kw_i (va_runV (As := [.int (nI j)]) (rest := []) ⟨hx, hb, hml, hown, hts⟩ (metX3_isThere l D H.size y aw az ah ak cI cD n (by omega) wm ys q qf yo ri ol th wd zs h kp (nI j)) (cwV 1 hts gX3_pourAway_X3_isThere rfl rfl rfl (by decide +kernel) ⟨Nat.le_of_ble_eq_true rfl, Nat.le_of_ble_eq_true rfl⟩) (pmV 3 0 RX3 TX3 13 rfl rfl hP hK hD) rfl rfl hl.1 rfl (lv_room (Nat.le_of_ble_eq_true rfl)) dX3_pourAway_2 ⟨Nat.le_of_ble_eq_true rfl, Nat.le_of_ble_eq_true rfl⟩) hP hD hS hA (fun H locs hP hD hS => ?_)
    have hP : va_P D vwCl (modW y aw az ah ak cI cD (nI n) wm ys q qf yo ri ol (thI n (nI j)) wd zs h kp) H := hP
    have hD : va_D A (modW y aw az ah ak cI cD (nI n) wm ys q qf yo ri ol (thI n (nI j)) wd zs h kp) := hD
    refine ki_eq (show (if thI n (nI j) = 0 then (1 : Int32) else 0) = 1 from by rw [thI_n g]; rfl) ?_
    rw [thI_n g] at hP hD
    have hP : va_P D vwCl (modW y aw az ah ak cI cD (nI n) wm ys q qf yo ri ol 0 wd zs h kp) H := hP
    have hD : va_D A (modW y aw az ah ak cI cD (nI n) wm ys q qf yo ri ol 0 wd zs h kp) := hD
    refine lv_if_ne (tgt := 10) hx hb dX3_pourAway_5 (by decide) (fun c5 => ?_) (fun c5 => absurd c5 (by decide))
    refine lv_aload_n hx hb dX3_pourAway_10 rfl (lv_at hl 0 rfl) ?_
    refine va_get (D := D) (ci := 3) (v := .ref ah) (C := RX3) (T := TX3) (N := 13) hx hb hts (by decide +kernel) hown hK hP (0) rfl rfl 2 (by decide) (hts (.fieldLink RX3 16 "VinegarLoftModel" "holds" "[D") (by decide +kernel)) (fun _ h9 => h9) rfl dX3_pourAway_11 ?_
    refine lv_iconst (v := 0) hx hb dX3_pourAway_14 (by decide) ?_
    refine lv_iload_n hx hb dX3_pourAway_15 rfl (lv_at hl 1 rfl) ?_
    refine lv_iadd hx hb dX3_pourAway_16 ?_
    refine kx_dald hx hb hK hP 3 1 rfl rfl (j := j) (ix0 j) (show j < 32 by omega) (by decide) dX3_pourAway_17 ?_
    refine lv_dstore_n (lv' := [(2, .double (h j)), (0, .ref y), (1, .int (nI j))]) hx hb dX3_pourAway_18 rfl hl (by decide) rfl (fun ls hl => ?_)
    refine lv_aload_n hx hb dX3_pourAway_19 rfl (lv_at hl 1 rfl) ?_
    refine lv_iload_n hx hb dX3_pourAway_20 rfl (lv_at hl 2 rfl) ?_
    refine kw_v (va_runV (As := [.int (nI j)]) (rest := []) ⟨hx, hb, hml, hown, hts⟩ (metX3_empties l D H.size y aw az ah ak cI cD n (by omega) wm ys q qf yo ri ol 0 wd zs h kp j (by omega)) (cwV 1 hts gX3_pourAway_X3_empties rfl rfl rfl (by decide +kernel) ⟨Nat.le_of_ble_eq_true rfl, Nat.le_of_ble_eq_true rfl⟩) (pmV 3 0 RX3 TX3 13 rfl rfl hP hK hD) rfl rfl hl.1 rfl (lv_room (Nat.le_of_ble_eq_true rfl)) dX3_pourAway_21 ⟨Nat.le_of_ble_eq_true rfl, Nat.le_of_ble_eq_true rfl⟩) hP hD hS hA (fun H locs hP hD hS => ?_)
    have hP : va_P D vwCl (modW y aw az ah ak cI cD (nI n) wm ys q qf yo ri ol 0 wd zs (hset h j 0 0 0 0) kp) H := hP
    have hD : va_D A (modW y aw az ah ak cI cD (nI n) wm ys q qf yo ri ol 0 wd zs (hset h j 0 0 0 0) kp) := hD
    refine lv_dload_n hx hb dX3_pourAway_24 rfl (lv_at hl 0 rfl) ?_
    have hP : va_P D vwCl (modW y aw az ah ak cI cD (nI n) wm ys q qf yo ri ol (thI n (nI j)) wd zs (if thI n (nI j) = 0 then hset h (nI j).toNatClampNeg 0 0 0 0 else h) kp) H := by rw [thI_n g, if_pos rfl, nI_clamp (show j < 2 ^ 31 by omega)]; exact hP
    have hD : va_D A (modW y aw az ah ak cI cD (nI n) wm ys q qf yo ri ol (thI n (nI j)) wd zs (if thI n (nI j) = 0 then hset h (nI j).toNatClampNeg 0 0 0 0 else h) kp) := by rw [thI_n g, if_pos rfl, nI_clamp (show j < 2 ^ 31 by omega)]; exact hD
    exact W.dret hx hb hr (fun t ht hW => ⟨⟨_, (), rfl, by rw [thI_n g, if_pos rfl, nI_clamp (show j < 2 ^ 31 by omega)], by rw [ht]; exact hP, va_K.moved hW.alike hK, hD⟩, hS.F ht⟩) hS.2.2 dX3_pourAway_25

set_option maxHeartbeats 4000000 in
set_option maxRecDepth 100000 in
theorem metX3_of (l : Launch) (D : va_G) (sz : Nat) (y aw az ah ak : Nat) (cI cD : ClassId) (n : Nat) (hn : n ≤ 8) (wm ys : Int32) (q : UInt64) (qf yo ri ol th : Int32) (wd zs : Nat → Int32) (h kp : Nat → UInt64) (x : Int32) (o : Nat) (ho : o = 0 ∨ o = 8 ∨ o = 16 ∨ o = 24)  : Met l yX3_of wsX3_of { frames := 1, cells := 0, slots := 0, locals := 21 } (Pm D [(cI, .int), (cD, .double)] [.ref y, .int x, .int (nI o)] (modW y aw az ah ak cI cD (nI n) wm ys q qf yo ri ol th wd zs h kp) sz) (va_Qd (fun (r : UInt64) (_ : Unit) => r = if thI n x = 0 then h (o + x.toNatClampNeg) else 0) (Bm D [(cI, .int), (cD, .double)] (va_A (modW y aw az ah ak cI cD (nI n) wm ys q qf yo ri ol th wd zs h kp) sz) (modW y aw az ah ak cI cD (nI n) wm ys q qf yo ri ol (thI n x) wd zs h kp)) (va_A (modW y aw az ah ak cI cD (nI n) wm ys q qf yo ri ol th wd zs h kp) sz)) 0 0 (va_A (modW y aw az ah ak cI cD (nI n) wm ys q qf yo ri ol th wd zs h kp) sz) := by
  refine Met.ofW (cc := cX3_of) (maxL := 3) (ret := (some .double)) (by decide) rfl ?_
  intro p e s m args below meth c s₁ B hml hv
  obtain ⟨rfl, hsz, hP, hK, hD0⟩ := hv
  have hx := B.exec
  have hb := B.bytes
  have hr := B.returns
  have hts := atoms_spec (ws := wsX3_of) B.pre
  have hown : s.vm.findClass RX3 = some m.cls := findClass_of_methodNamed B.named
  have hlocks := B.notSynchronized
  subst hsz
  have hD := hD0.self (sz := s.heap.size)
  generalize hAe : va_A (modW y aw az ah ak cI cD (nI n) wm ys q qf yo ri ol th wd zs h kp) s.heap.size = A at hD ⊢
  have hA : ∀ q : Nat, s.heap.size ≤ q → A q := fun q h => by rw [← hAe]; exact Or.inr h
  refine kW_H (fun H hH => ?_)
  have hP : va_P D vwCl (modW y aw az ah ak cI cD (nI n) wm ys q qf yo ri ol th wd zs h kp) H := by rw [hH]; exact hP
  have hS : va_S A s.heap H [] := by rw [hH]; exact va_S.rf
  have hl := lv_entry ([.ref y, .int x, .int (nI o)]) (n := 3) (Nat.le_of_ble_eq_true rfl)
  rw [lg_entry_eq]
  generalize (lg_sl ([.ref y, .int x, .int (nI o)]) ++ List.replicate (3 - (lg_sl ([.ref y, .int x, .int (nI o)])).length) Slot.unset).toArray = ls at hl ⊢
  have hl : lv_has ls 3 [(0, .ref y), (1, .int x), (2, .int (nI o))] := hl
  refine lv_aload_n hx hb dX3_of_0 rfl (lv_at hl 0 rfl) ?_
  refine lv_iload_n hx hb dX3_of_1 rfl (lv_at hl 1 rfl) ?_
  by_cases g : badI n x
  · refine kw_i (va_runV (As := [.int x]) (rest := []) ⟨hx, hb, hml, hown, hts⟩ (metX3_isThere l D H.size y aw az ah ak cI cD n (by omega) wm ys q qf yo ri ol th wd zs h kp x) (cwV 1 hts gX3_of_X3_isThere rfl rfl rfl (by decide +kernel) ⟨Nat.le_of_ble_eq_true rfl, Nat.le_of_ble_eq_true rfl⟩) (pmV 3 0 RX3 TX3 13 rfl rfl hP hK hD) rfl rfl hl.1 rfl (lv_room (Nat.le_of_ble_eq_true rfl)) dX3_of_2 ⟨Nat.le_of_ble_eq_true rfl, Nat.le_of_ble_eq_true rfl⟩) hP hD hS hA (fun H locs hP hD hS => ?_)
    have hP : va_P D vwCl (modW y aw az ah ak cI cD (nI n) wm ys q qf yo ri ol (thI n x) wd zs h kp) H := hP
    have hD : va_D A (modW y aw az ah ak cI cD (nI n) wm ys q qf yo ri ol (thI n x) wd zs h kp) := hD
    refine ki_eq (show (if thI n x = 0 then (1 : Int32) else 0) = 0 from by rw [thI_y g]; rfl) ?_
    rw [thI_y g] at hP hD
    have hP : va_P D vwCl (modW y aw az ah ak cI cD (nI n) wm ys q qf yo ri ol 1 wd zs h kp) H := hP
    have hD : va_D A (modW y aw az ah ak cI cD (nI n) wm ys q qf yo ri ol 1 wd zs h kp) := hD
    refine lv_if_eq (tgt := 19) hx hb dX3_of_5 (by decide) (fun c5 => ?_) (fun c5 => absurd rfl c5)
    refine kd_0 hx hb dX3_of_19 ?_
    have hP : va_P D vwCl (modW y aw az ah ak cI cD (nI n) wm ys q qf yo ri ol (thI n x) wd zs h kp) H := by rw [thI_y g]; exact hP
    have hD : va_D A (modW y aw az ah ak cI cD (nI n) wm ys q qf yo ri ol (thI n x) wd zs h kp) := by rw [thI_y g]; exact hD
    exact W.dret hx hb hr (fun t ht hW => ⟨⟨_, (), rfl, by rw [thI_y g, if_neg (by decide)], by rw [ht]; exact hP, va_K.moved hW.alike hK, hD⟩, hS.F ht⟩) hS.2.2 dX3_of_20
  · obtain ⟨j, hj, hxj⟩ := badI_nat hn g
    subst hxj
    have hl : lv_has ls 3 [(0, .ref y), (1, .int (nI j)), (2, .int (nI o))] := hl
    refine kw_i (va_runV (As := [.int (nI j)]) (rest := []) ⟨hx, hb, hml, hown, hts⟩ (metX3_isThere l D H.size y aw az ah ak cI cD n (by omega) wm ys q qf yo ri ol th wd zs h kp (nI j)) (cwV 1 hts gX3_of_X3_isThere rfl rfl rfl (by decide +kernel) ⟨Nat.le_of_ble_eq_true rfl, Nat.le_of_ble_eq_true rfl⟩) (pmV 3 0 RX3 TX3 13 rfl rfl hP hK hD) rfl rfl hl.1 rfl (lv_room (Nat.le_of_ble_eq_true rfl)) dX3_of_2 ⟨Nat.le_of_ble_eq_true rfl, Nat.le_of_ble_eq_true rfl⟩) hP hD hS hA (fun H locs hP hD hS => ?_)
    have hP : va_P D vwCl (modW y aw az ah ak cI cD (nI n) wm ys q qf yo ri ol (thI n (nI j)) wd zs h kp) H := hP
    have hD : va_D A (modW y aw az ah ak cI cD (nI n) wm ys q qf yo ri ol (thI n (nI j)) wd zs h kp) := hD
    refine ki_eq (show (if thI n (nI j) = 0 then (1 : Int32) else 0) = 1 from by rw [thI_n g]; rfl) ?_
    rw [thI_n g] at hP hD
    have hP : va_P D vwCl (modW y aw az ah ak cI cD (nI n) wm ys q qf yo ri ol 0 wd zs h kp) H := hP
    have hD : va_D A (modW y aw az ah ak cI cD (nI n) wm ys q qf yo ri ol 0 wd zs h kp) := hD
    refine lv_if_eq (tgt := 19) hx hb dX3_of_5 (by decide) (fun c5 => absurd c5 (by decide)) (fun c5 => ?_)
    refine lv_aload_n hx hb dX3_of_8 rfl (lv_at hl 0 rfl) ?_
    refine va_get (D := D) (ci := 3) (v := .ref ah) (C := RX3) (T := TX3) (N := 13) hx hb hts (by decide +kernel) hown hK hP (0) rfl rfl 2 (by decide) (hts (.fieldLink RX3 16 "VinegarLoftModel" "holds" "[D") (by decide +kernel)) (fun _ h9 => h9) rfl dX3_of_9 ?_
    refine lv_iload_n hx hb dX3_of_12 rfl (lv_at hl 2 rfl) ?_
    refine lv_iload_n hx hb dX3_of_13 rfl (lv_at hl 1 rfl) ?_
    refine lv_iadd hx hb dX3_of_14 ?_
    refine kx_dald hx hb hK hP 3 1 rfl rfl (j := o + j) (ixc o j) (show o + j < 32 by omega) (by decide) dX3_of_15 ?_
    refine lv_goto (tgt := 20) hx hb dX3_of_16 (by decide) ?_
    have hP : va_P D vwCl (modW y aw az ah ak cI cD (nI n) wm ys q qf yo ri ol (thI n (nI j)) wd zs h kp) H := by rw [thI_n g]; exact hP
    have hD : va_D A (modW y aw az ah ak cI cD (nI n) wm ys q qf yo ri ol (thI n (nI j)) wd zs h kp) := by rw [thI_n g]; exact hD
    exact W.dret hx hb hr (fun t ht hW => ⟨⟨_, (), rfl, by rw [thI_n g, if_pos rfl, nI_clamp (show j < 2 ^ 31 by omega)], by rw [ht]; exact hP, va_K.moved hW.alike hK, hD⟩, hS.F ht⟩) hS.2.2 dX3_of_20

set_option maxHeartbeats 4000000 in
set_option maxRecDepth 100000 in
theorem metX3_litresIn (l : Launch) (D : va_G) (sz : Nat) (y aw az ah ak : Nat) (cI cD : ClassId) (n : Nat) (hn : n ≤ 8) (wm ys : Int32) (q : UInt64) (qf yo ri ol th : Int32) (wd zs : Nat → Int32) (h kp : Nat → UInt64) (x : Int32)  : Met l yX3_litresIn wsX3_litresIn { frames := 2, cells := 0, slots := 0, locals := 43 } (Pm D [(cI, .int), (cD, .double)] [.ref y, .int x] (modW y aw az ah ak cI cD (nI n) wm ys q qf yo ri ol th wd zs h kp) sz) (va_Qd (fun (r : UInt64) (_ : Unit) => r = if thI n x = 0 then h (0 + x.toNatClampNeg) else 0) (Bm D [(cI, .int), (cD, .double)] (va_A (modW y aw az ah ak cI cD (nI n) wm ys q qf yo ri ol th wd zs h kp) sz) (modW y aw az ah ak cI cD (nI n) wm ys q qf yo ri ol (thI n x) wd zs h kp)) (va_A (modW y aw az ah ak cI cD (nI n) wm ys q qf yo ri ol th wd zs h kp) sz)) 0 0 (va_A (modW y aw az ah ak cI cD (nI n) wm ys q qf yo ri ol th wd zs h kp) sz) := by
  refine Met.ofW (cc := cX3_litresIn) (maxL := 2) (ret := (some .double)) (by decide) rfl ?_
  intro p e s m args below meth c s₁ B hml hv
  obtain ⟨rfl, hsz, hP, hK, hD0⟩ := hv
  have hx := B.exec
  have hb := B.bytes
  have hr := B.returns
  have hts := atoms_spec (ws := wsX3_litresIn) B.pre
  have hown : s.vm.findClass RX3 = some m.cls := findClass_of_methodNamed B.named
  have hlocks := B.notSynchronized
  subst hsz
  have hD := hD0.self (sz := s.heap.size)
  generalize hAe : va_A (modW y aw az ah ak cI cD (nI n) wm ys q qf yo ri ol th wd zs h kp) s.heap.size = A at hD ⊢
  have hA : ∀ q : Nat, s.heap.size ≤ q → A q := fun q h => by rw [← hAe]; exact Or.inr h
  refine kW_H (fun H hH => ?_)
  have hP : va_P D vwCl (modW y aw az ah ak cI cD (nI n) wm ys q qf yo ri ol th wd zs h kp) H := by rw [hH]; exact hP
  have hS : va_S A s.heap H [] := by rw [hH]; exact va_S.rf
  have hl := lv_entry ([.ref y, .int x]) (n := 2) (Nat.le_of_ble_eq_true rfl)
  rw [lg_entry_eq]
  generalize (lg_sl ([.ref y, .int x]) ++ List.replicate (2 - (lg_sl ([.ref y, .int x])).length) Slot.unset).toArray = ls at hl ⊢
  have hl : lv_has ls 2 [(0, .ref y), (1, .int x)] := hl
  refine lv_aload_n hx hb dX3_litresIn_0 rfl (lv_at hl 0 rfl) ?_
  refine lv_iload_n hx hb dX3_litresIn_1 rfl (lv_at hl 1 rfl) ?_
  refine lv_iconst (v := 0) hx hb dX3_litresIn_2 (by decide) ?_
  refine kw_d (va_runV (As := [.int x, .int 0]) (rest := []) ⟨hx, hb, hml, hown, hts⟩ (metX3_of l D H.size y aw az ah ak cI cD n (by omega) wm ys q qf yo ri ol th wd zs h kp x 0 (by decide)) (cwV 2 hts gX3_litresIn_X3_of rfl rfl rfl (by decide +kernel) ⟨Nat.le_of_ble_eq_true rfl, Nat.le_of_ble_eq_true rfl⟩) (pmV 3 0 RX3 TX3 13 rfl rfl hP hK hD) rfl rfl hl.1 rfl (lv_room (Nat.le_of_ble_eq_true rfl)) dX3_litresIn_3 ⟨Nat.le_of_ble_eq_true rfl, Nat.le_of_ble_eq_true rfl⟩) hP hD hS hA (fun H locs hP hD hS => ?_)
  have hP : va_P D vwCl (modW y aw az ah ak cI cD (nI n) wm ys q qf yo ri ol (thI n x) wd zs h kp) H := hP
  have hD : va_D A (modW y aw az ah ak cI cD (nI n) wm ys q qf yo ri ol (thI n x) wd zs h kp) := hD
  exact W.dret hx hb hr (fun t ht hW => ⟨⟨_, (), rfl, rfl, by rw [ht]; exact hP, va_K.moved hW.alike hK, hD⟩, hS.F ht⟩) hS.2.2 dX3_litresIn_6

set_option maxHeartbeats 4000000 in
set_option maxRecDepth 100000 in
theorem metX3_ageOf (l : Launch) (D : va_G) (sz : Nat) (y aw az ah ak : Nat) (cI cD : ClassId) (n : Nat) (hn : n ≤ 8) (wm ys : Int32) (q : UInt64) (qf yo ri ol th : Int32) (wd zs : Nat → Int32) (h kp : Nat → UInt64) (x : Int32)  : Met l yX3_ageOf wsX3_ageOf { frames := 2, cells := 0, slots := 0, locals := 43 } (Pm D [(cI, .int), (cD, .double)] [.ref y, .int x] (modW y aw az ah ak cI cD (nI n) wm ys q qf yo ri ol th wd zs h kp) sz) (va_Qd (fun (r : UInt64) (_ : Unit) => r = if thI n x = 0 then h (8 + x.toNatClampNeg) else 0) (Bm D [(cI, .int), (cD, .double)] (va_A (modW y aw az ah ak cI cD (nI n) wm ys q qf yo ri ol th wd zs h kp) sz) (modW y aw az ah ak cI cD (nI n) wm ys q qf yo ri ol (thI n x) wd zs h kp)) (va_A (modW y aw az ah ak cI cD (nI n) wm ys q qf yo ri ol th wd zs h kp) sz)) 0 0 (va_A (modW y aw az ah ak cI cD (nI n) wm ys q qf yo ri ol th wd zs h kp) sz) := by
  refine Met.ofW (cc := cX3_ageOf) (maxL := 2) (ret := (some .double)) (by decide) rfl ?_
  intro p e s m args below meth c s₁ B hml hv
  obtain ⟨rfl, hsz, hP, hK, hD0⟩ := hv
  have hx := B.exec
  have hb := B.bytes
  have hr := B.returns
  have hts := atoms_spec (ws := wsX3_ageOf) B.pre
  have hown : s.vm.findClass RX3 = some m.cls := findClass_of_methodNamed B.named
  have hlocks := B.notSynchronized
  subst hsz
  have hD := hD0.self (sz := s.heap.size)
  generalize hAe : va_A (modW y aw az ah ak cI cD (nI n) wm ys q qf yo ri ol th wd zs h kp) s.heap.size = A at hD ⊢
  have hA : ∀ q : Nat, s.heap.size ≤ q → A q := fun q h => by rw [← hAe]; exact Or.inr h
  refine kW_H (fun H hH => ?_)
  have hP : va_P D vwCl (modW y aw az ah ak cI cD (nI n) wm ys q qf yo ri ol th wd zs h kp) H := by rw [hH]; exact hP
  have hS : va_S A s.heap H [] := by rw [hH]; exact va_S.rf
  have hl := lv_entry ([.ref y, .int x]) (n := 2) (Nat.le_of_ble_eq_true rfl)
  rw [lg_entry_eq]
  generalize (lg_sl ([.ref y, .int x]) ++ List.replicate (2 - (lg_sl ([.ref y, .int x])).length) Slot.unset).toArray = ls at hl ⊢
  have hl : lv_has ls 2 [(0, .ref y), (1, .int x)] := hl
  refine lv_aload_n hx hb dX3_ageOf_0 rfl (lv_at hl 0 rfl) ?_
  refine lv_iload_n hx hb dX3_ageOf_1 rfl (lv_at hl 1 rfl) ?_
  refine lv_bipush (v := 8) hx hb dX3_ageOf_2 (by decide) ?_
  refine kw_d (va_runV (As := [.int x, .int 8]) (rest := []) ⟨hx, hb, hml, hown, hts⟩ (metX3_of l D H.size y aw az ah ak cI cD n (by omega) wm ys q qf yo ri ol th wd zs h kp x 8 (by decide)) (cwV 2 hts gX3_ageOf_X3_of rfl rfl rfl (by decide +kernel) ⟨Nat.le_of_ble_eq_true rfl, Nat.le_of_ble_eq_true rfl⟩) (pmV 3 0 RX3 TX3 13 rfl rfl hP hK hD) rfl rfl hl.1 rfl (lv_room (Nat.le_of_ble_eq_true rfl)) dX3_ageOf_4 ⟨Nat.le_of_ble_eq_true rfl, Nat.le_of_ble_eq_true rfl⟩) hP hD hS hA (fun H locs hP hD hS => ?_)
  have hP : va_P D vwCl (modW y aw az ah ak cI cD (nI n) wm ys q qf yo ri ol (thI n x) wd zs h kp) H := hP
  have hD : va_D A (modW y aw az ah ak cI cD (nI n) wm ys q qf yo ri ol (thI n x) wd zs h kp) := hD
  exact W.dret hx hb hr (fun t ht hW => ⟨⟨_, (), rfl, rfl, by rw [ht]; exact hP, va_K.moved hW.alike hK, hD⟩, hS.F ht⟩) hS.2.2 dX3_ageOf_7

set_option maxHeartbeats 4000000 in
set_option maxRecDepth 100000 in
theorem metX3_acidOf (l : Launch) (D : va_G) (sz : Nat) (y aw az ah ak : Nat) (cI cD : ClassId) (n : Nat) (hn : n ≤ 8) (wm ys : Int32) (q : UInt64) (qf yo ri ol th : Int32) (wd zs : Nat → Int32) (h kp : Nat → UInt64) (x : Int32)  : Met l yX3_acidOf wsX3_acidOf { frames := 2, cells := 0, slots := 0, locals := 43 } (Pm D [(cI, .int), (cD, .double)] [.ref y, .int x] (modW y aw az ah ak cI cD (nI n) wm ys q qf yo ri ol th wd zs h kp) sz) (va_Qd (fun (r : UInt64) (_ : Unit) => r = if thI n x = 0 then h (16 + x.toNatClampNeg) else 0) (Bm D [(cI, .int), (cD, .double)] (va_A (modW y aw az ah ak cI cD (nI n) wm ys q qf yo ri ol th wd zs h kp) sz) (modW y aw az ah ak cI cD (nI n) wm ys q qf yo ri ol (thI n x) wd zs h kp)) (va_A (modW y aw az ah ak cI cD (nI n) wm ys q qf yo ri ol th wd zs h kp) sz)) 0 0 (va_A (modW y aw az ah ak cI cD (nI n) wm ys q qf yo ri ol th wd zs h kp) sz) := by
  refine Met.ofW (cc := cX3_acidOf) (maxL := 2) (ret := (some .double)) (by decide) rfl ?_
  intro p e s m args below meth c s₁ B hml hv
  obtain ⟨rfl, hsz, hP, hK, hD0⟩ := hv
  have hx := B.exec
  have hb := B.bytes
  have hr := B.returns
  have hts := atoms_spec (ws := wsX3_acidOf) B.pre
  have hown : s.vm.findClass RX3 = some m.cls := findClass_of_methodNamed B.named
  have hlocks := B.notSynchronized
  subst hsz
  have hD := hD0.self (sz := s.heap.size)
  generalize hAe : va_A (modW y aw az ah ak cI cD (nI n) wm ys q qf yo ri ol th wd zs h kp) s.heap.size = A at hD ⊢
  have hA : ∀ q : Nat, s.heap.size ≤ q → A q := fun q h => by rw [← hAe]; exact Or.inr h
  refine kW_H (fun H hH => ?_)
  have hP : va_P D vwCl (modW y aw az ah ak cI cD (nI n) wm ys q qf yo ri ol th wd zs h kp) H := by rw [hH]; exact hP
  have hS : va_S A s.heap H [] := by rw [hH]; exact va_S.rf
  have hl := lv_entry ([.ref y, .int x]) (n := 2) (Nat.le_of_ble_eq_true rfl)
  rw [lg_entry_eq]
  generalize (lg_sl ([.ref y, .int x]) ++ List.replicate (2 - (lg_sl ([.ref y, .int x])).length) Slot.unset).toArray = ls at hl ⊢
  have hl : lv_has ls 2 [(0, .ref y), (1, .int x)] := hl
  refine lv_aload_n hx hb dX3_acidOf_0 rfl (lv_at hl 0 rfl) ?_
  refine lv_iload_n hx hb dX3_acidOf_1 rfl (lv_at hl 1 rfl) ?_
  refine lv_bipush (v := 16) hx hb dX3_acidOf_2 (by decide) ?_
  refine kw_d (va_runV (As := [.int x, .int 16]) (rest := []) ⟨hx, hb, hml, hown, hts⟩ (metX3_of l D H.size y aw az ah ak cI cD n (by omega) wm ys q qf yo ri ol th wd zs h kp x 16 (by decide)) (cwV 2 hts gX3_acidOf_X3_of rfl rfl rfl (by decide +kernel) ⟨Nat.le_of_ble_eq_true rfl, Nat.le_of_ble_eq_true rfl⟩) (pmV 3 0 RX3 TX3 13 rfl rfl hP hK hD) rfl rfl hl.1 rfl (lv_room (Nat.le_of_ble_eq_true rfl)) dX3_acidOf_4 ⟨Nat.le_of_ble_eq_true rfl, Nat.le_of_ble_eq_true rfl⟩) hP hD hS hA (fun H locs hP hD hS => ?_)
  have hP : va_P D vwCl (modW y aw az ah ak cI cD (nI n) wm ys q qf yo ri ol (thI n x) wd zs h kp) H := hP
  have hD : va_D A (modW y aw az ah ak cI cD (nI n) wm ys q qf yo ri ol (thI n x) wd zs h kp) := hD
  exact W.dret hx hb hr (fun t ht hW => ⟨⟨_, (), rfl, rfl, by rw [ht]; exact hP, va_K.moved hW.alike hK, hD⟩, hS.F ht⟩) hS.2.2 dX3_acidOf_7

set_option maxHeartbeats 4000000 in
set_option maxRecDepth 100000 in
theorem metX3_sugarOf (l : Launch) (D : va_G) (sz : Nat) (y aw az ah ak : Nat) (cI cD : ClassId) (n : Nat) (hn : n ≤ 8) (wm ys : Int32) (q : UInt64) (qf yo ri ol th : Int32) (wd zs : Nat → Int32) (h kp : Nat → UInt64) (x : Int32)  : Met l yX3_sugarOf wsX3_sugarOf { frames := 2, cells := 0, slots := 0, locals := 43 } (Pm D [(cI, .int), (cD, .double)] [.ref y, .int x] (modW y aw az ah ak cI cD (nI n) wm ys q qf yo ri ol th wd zs h kp) sz) (va_Qd (fun (r : UInt64) (_ : Unit) => r = if thI n x = 0 then h (24 + x.toNatClampNeg) else 0) (Bm D [(cI, .int), (cD, .double)] (va_A (modW y aw az ah ak cI cD (nI n) wm ys q qf yo ri ol th wd zs h kp) sz) (modW y aw az ah ak cI cD (nI n) wm ys q qf yo ri ol (thI n x) wd zs h kp)) (va_A (modW y aw az ah ak cI cD (nI n) wm ys q qf yo ri ol th wd zs h kp) sz)) 0 0 (va_A (modW y aw az ah ak cI cD (nI n) wm ys q qf yo ri ol th wd zs h kp) sz) := by
  refine Met.ofW (cc := cX3_sugarOf) (maxL := 2) (ret := (some .double)) (by decide) rfl ?_
  intro p e s m args below meth c s₁ B hml hv
  obtain ⟨rfl, hsz, hP, hK, hD0⟩ := hv
  have hx := B.exec
  have hb := B.bytes
  have hr := B.returns
  have hts := atoms_spec (ws := wsX3_sugarOf) B.pre
  have hown : s.vm.findClass RX3 = some m.cls := findClass_of_methodNamed B.named
  have hlocks := B.notSynchronized
  subst hsz
  have hD := hD0.self (sz := s.heap.size)
  generalize hAe : va_A (modW y aw az ah ak cI cD (nI n) wm ys q qf yo ri ol th wd zs h kp) s.heap.size = A at hD ⊢
  have hA : ∀ q : Nat, s.heap.size ≤ q → A q := fun q h => by rw [← hAe]; exact Or.inr h
  refine kW_H (fun H hH => ?_)
  have hP : va_P D vwCl (modW y aw az ah ak cI cD (nI n) wm ys q qf yo ri ol th wd zs h kp) H := by rw [hH]; exact hP
  have hS : va_S A s.heap H [] := by rw [hH]; exact va_S.rf
  have hl := lv_entry ([.ref y, .int x]) (n := 2) (Nat.le_of_ble_eq_true rfl)
  rw [lg_entry_eq]
  generalize (lg_sl ([.ref y, .int x]) ++ List.replicate (2 - (lg_sl ([.ref y, .int x])).length) Slot.unset).toArray = ls at hl ⊢
  have hl : lv_has ls 2 [(0, .ref y), (1, .int x)] := hl
  refine lv_aload_n hx hb dX3_sugarOf_0 rfl (lv_at hl 0 rfl) ?_
  refine lv_iload_n hx hb dX3_sugarOf_1 rfl (lv_at hl 1 rfl) ?_
  refine lv_bipush (v := 24) hx hb dX3_sugarOf_2 (by decide) ?_
  refine kw_d (va_runV (As := [.int x, .int 24]) (rest := []) ⟨hx, hb, hml, hown, hts⟩ (metX3_of l D H.size y aw az ah ak cI cD n (by omega) wm ys q qf yo ri ol th wd zs h kp x 24 (by decide)) (cwV 2 hts gX3_sugarOf_X3_of rfl rfl rfl (by decide +kernel) ⟨Nat.le_of_ble_eq_true rfl, Nat.le_of_ble_eq_true rfl⟩) (pmV 3 0 RX3 TX3 13 rfl rfl hP hK hD) rfl rfl hl.1 rfl (lv_room (Nat.le_of_ble_eq_true rfl)) dX3_sugarOf_4 ⟨Nat.le_of_ble_eq_true rfl, Nat.le_of_ble_eq_true rfl⟩) hP hD hS hA (fun H locs hP hD hS => ?_)
  have hP : va_P D vwCl (modW y aw az ah ak cI cD (nI n) wm ys q qf yo ri ol (thI n x) wd zs h kp) H := hP
  have hD : va_D A (modW y aw az ah ak cI cD (nI n) wm ys q qf yo ri ol (thI n x) wd zs h kp) := hD
  exact W.dret hx hb hr (fun t ht hW => ⟨⟨_, (), rfl, rfl, by rw [ht]; exact hP, va_K.moved hW.alike hK, hD⟩, hS.F ht⟩) hS.2.2 dX3_sugarOf_7

set_option maxHeartbeats 4000000 in
set_option maxRecDepth 100000 in
theorem metX3_tasteOf (l : Launch) (D : va_G) (sz : Nat) (y aw az ah ak : Nat) (cI cD : ClassId) (n : Nat) (hn : n ≤ 8) (wm ys : Int32) (q : UInt64) (qf yo ri ol th : Int32) (wd zs : Nat → Int32) (h kp : Nat → UInt64) (x : Int32) (hT : ∀ j, j < n → FP.dcmp (h j) 0 ≠ none ∧ (FP.dcmp (h j) 0 = some .gt → tasok (h (8 + j)) (h (16 + j)) (h (24 + j)))) : Met l yX3_tasteOf wsX3_tasteOf { frames := 1, cells := 0, slots := 0, locals := 21 } (Pm D [(cI, .int), (cD, .double)] [.ref y, .int x] (modW y aw az ah ak cI cD (nI n) wm ys q qf yo ri ol th wd zs h kp) sz) (va_Qd (fun (r : UInt64) (_ : Unit) => r = if thI n x = 0 then (let j := x.toNatClampNeg; tasv (h j) (h (8 + j)) (h (16 + j)) (h (24 + j))) else 0) (Bm D [(cI, .int), (cD, .double)] (va_A (modW y aw az ah ak cI cD (nI n) wm ys q qf yo ri ol th wd zs h kp) sz) (modW y aw az ah ak cI cD (nI n) wm ys q qf yo ri ol (thI n x) wd zs h kp)) (va_A (modW y aw az ah ak cI cD (nI n) wm ys q qf yo ri ol th wd zs h kp) sz)) 0 0 (va_A (modW y aw az ah ak cI cD (nI n) wm ys q qf yo ri ol th wd zs h kp) sz) := by
  refine Met.ofW (cc := cX3_tasteOf) (maxL := 4) (ret := (some .double)) (by decide) rfl ?_
  intro p e s m args below meth c s₁ B hml hv
  obtain ⟨rfl, hsz, hP, hK, hD0⟩ := hv
  have hx := B.exec
  have hb := B.bytes
  have hr := B.returns
  have hts := atoms_spec (ws := wsX3_tasteOf) B.pre
  have hown : s.vm.findClass RX3 = some m.cls := findClass_of_methodNamed B.named
  have hlocks := B.notSynchronized
  subst hsz
  have hD := hD0.self (sz := s.heap.size)
  generalize hAe : va_A (modW y aw az ah ak cI cD (nI n) wm ys q qf yo ri ol th wd zs h kp) s.heap.size = A at hD ⊢
  have hA : ∀ q : Nat, s.heap.size ≤ q → A q := fun q h => by rw [← hAe]; exact Or.inr h
  refine kW_H (fun H hH => ?_)
  have hP : va_P D vwCl (modW y aw az ah ak cI cD (nI n) wm ys q qf yo ri ol th wd zs h kp) H := by rw [hH]; exact hP
  have hS : va_S A s.heap H [] := by rw [hH]; exact va_S.rf
  have hl := lv_entry ([.ref y, .int x]) (n := 4) (Nat.le_of_ble_eq_true rfl)
  rw [lg_entry_eq]
  generalize (lg_sl ([.ref y, .int x]) ++ List.replicate (4 - (lg_sl ([.ref y, .int x])).length) Slot.unset).toArray = ls at hl ⊢
  have hl : lv_has ls 4 [(0, .ref y), (1, .int x)] := hl
  refine lv_aload_n hx hb dX3_tasteOf_0 rfl (lv_at hl 0 rfl) ?_
  refine lv_iload_n hx hb dX3_tasteOf_1 rfl (lv_at hl 1 rfl) ?_
  by_cases g : badI n x
  · refine kw_i (va_runV (As := [.int x]) (rest := []) ⟨hx, hb, hml, hown, hts⟩ (metX3_isThere l D H.size y aw az ah ak cI cD n (by omega) wm ys q qf yo ri ol th wd zs h kp x) (cwV 1 hts gX3_tasteOf_X3_isThere rfl rfl rfl (by decide +kernel) ⟨Nat.le_of_ble_eq_true rfl, Nat.le_of_ble_eq_true rfl⟩) (pmV 3 0 RX3 TX3 13 rfl rfl hP hK hD) rfl rfl hl.1 rfl (lv_room (Nat.le_of_ble_eq_true rfl)) dX3_tasteOf_2 ⟨Nat.le_of_ble_eq_true rfl, Nat.le_of_ble_eq_true rfl⟩) hP hD hS hA (fun H locs hP hD hS => ?_)
    have hP : va_P D vwCl (modW y aw az ah ak cI cD (nI n) wm ys q qf yo ri ol (thI n x) wd zs h kp) H := hP
    have hD : va_D A (modW y aw az ah ak cI cD (nI n) wm ys q qf yo ri ol (thI n x) wd zs h kp) := hD
    refine ki_eq (show (if thI n x = 0 then (1 : Int32) else 0) = 0 from by rw [thI_y g]; rfl) ?_
    rw [thI_y g] at hP hD
    have hP : va_P D vwCl (modW y aw az ah ak cI cD (nI n) wm ys q qf yo ri ol 1 wd zs h kp) H := hP
    have hD : va_D A (modW y aw az ah ak cI cD (nI n) wm ys q qf yo ri ol 1 wd zs h kp) := hD
    refine lv_if_eq (tgt := 16) hx hb dX3_tasteOf_5 (by decide) (fun c5 => ?_) (fun c5 => absurd rfl c5)
    refine kd_0 hx hb dX3_tasteOf_16 ?_
    have hP : va_P D vwCl (modW y aw az ah ak cI cD (nI n) wm ys q qf yo ri ol (thI n x) wd zs h kp) H := by rw [thI_y g]; exact hP
    have hD : va_D A (modW y aw az ah ak cI cD (nI n) wm ys q qf yo ri ol (thI n x) wd zs h kp) := by rw [thI_y g]; exact hD
    exact W.dret hx hb hr (fun t ht hW => ⟨⟨_, (), rfl, by rw [thI_y g, if_neg (by decide)], by rw [ht]; exact hP, va_K.moved hW.alike hK, hD⟩, hS.F ht⟩) hS.2.2 dX3_tasteOf_17
  · obtain ⟨j, hj, hxj⟩ := badI_nat hn g
    subst hxj
    have hl : lv_has ls 4 [(0, .ref y), (1, .int (nI j))] := hl
    refine kw_i (va_runV (As := [.int (nI j)]) (rest := []) ⟨hx, hb, hml, hown, hts⟩ (metX3_isThere l D H.size y aw az ah ak cI cD n (by omega) wm ys q qf yo ri ol th wd zs h kp (nI j)) (cwV 1 hts gX3_tasteOf_X3_isThere rfl rfl rfl (by decide +kernel) ⟨Nat.le_of_ble_eq_true rfl, Nat.le_of_ble_eq_true rfl⟩) (pmV 3 0 RX3 TX3 13 rfl rfl hP hK hD) rfl rfl hl.1 rfl (lv_room (Nat.le_of_ble_eq_true rfl)) dX3_tasteOf_2 ⟨Nat.le_of_ble_eq_true rfl, Nat.le_of_ble_eq_true rfl⟩) hP hD hS hA (fun H locs hP hD hS => ?_)
    have hP : va_P D vwCl (modW y aw az ah ak cI cD (nI n) wm ys q qf yo ri ol (thI n (nI j)) wd zs h kp) H := hP
    have hD : va_D A (modW y aw az ah ak cI cD (nI n) wm ys q qf yo ri ol (thI n (nI j)) wd zs h kp) := hD
    refine ki_eq (show (if thI n (nI j) = 0 then (1 : Int32) else 0) = 1 from by rw [thI_n g]; rfl) ?_
    rw [thI_n g] at hP hD
    have hP : va_P D vwCl (modW y aw az ah ak cI cD (nI n) wm ys q qf yo ri ol 0 wd zs h kp) H := hP
    have hD : va_D A (modW y aw az ah ak cI cD (nI n) wm ys q qf yo ri ol 0 wd zs h kp) := hD
    refine lv_if_eq (tgt := 16) hx hb dX3_tasteOf_5 (by decide) (fun c5 => absurd c5 (by decide)) (fun c5 => ?_)
    refine lv_aload_n hx hb dX3_tasteOf_8 rfl (lv_at hl 0 rfl) ?_
    refine lv_iload_n hx hb dX3_tasteOf_9 rfl (lv_at hl 1 rfl) ?_
    refine kr_i (W.runV (As := [.int (nI j)]) (rest := []) ⟨hx, hb, hml, hown, hts⟩ (metX3_isEmpty l D y aw az ah ak cI cD n (by omega) wm ys q qf yo ri ol 0 wd zs h kp j (by omega) (hT j hj).1) (cwV 1 hts gX3_tasteOf_X3_isEmpty rfl rfl rfl (by decide +kernel) ⟨Nat.le_of_ble_eq_true rfl, Nat.le_of_ble_eq_true rfl⟩) (prV 3 0 RX3 TX3 13 rfl rfl hP hK) rfl rfl hl.1 rfl (lv_room (Nat.le_of_ble_eq_true rfl)) dX3_tasteOf_10 ⟨Nat.le_of_ble_eq_true rfl, Nat.le_of_ble_eq_true rfl⟩) ?_
    refine lv_if_eq (tgt := 18) hx hb dX3_tasteOf_13 (by decide) (fun c13 => ?_) (fun c13 => ?_)
    · obtain ⟨a1, a2, a3, a4, a5, a6, a7⟩ := (hT j hj).2 (emp0.mp c13)
      refine lv_aload_n hx hb dX3_tasteOf_18 rfl (lv_at hl 0 rfl) ?_
      refine va_get (D := D) (ci := 3) (v := .ref ah) (C := RX3) (T := TX3) (N := 13) hx hb hts (by decide +kernel) hown hK hP (0) rfl rfl 2 (by decide) (hts (.fieldLink RX3 16 "VinegarLoftModel" "holds" "[D") (by decide +kernel)) (fun _ h9 => h9) rfl dX3_tasteOf_19 ?_
      refine lv_bipush (v := 16) hx hb dX3_tasteOf_22 (by decide) ?_
      refine lv_iload_n hx hb dX3_tasteOf_24 rfl (lv_at hl 1 rfl) ?_
      refine lv_iadd hx hb dX3_tasteOf_25 ?_
      refine kx_dald hx hb hK hP 3 1 rfl rfl (j := 16 + j) (ixc 16 j) (show 16 + j < 32 by omega) (by decide) dX3_tasteOf_26 ?_
      refine lv_ldc2d hx hb hown (hts (.constantDouble RX3 148 4618441417868443648) (by decide +kernel)) dX3_tasteOf_27 ?_
      refine lv_dsub hx hb dX3_tasteOf_30 a1 ?_
      refine lv_dstore_n (lv' := [(2, .double (FP.dsub (h (16 + j)) 4618441417868443648)), (0, .ref y), (1, .int (nI j))]) hx hb dX3_tasteOf_31 rfl hl (by decide) rfl (fun ls hl => ?_)
      refine lv_ldc2d hx hb hown (hts (.constantDouble RX3 48 4602678819172646912) (by decide +kernel)) dX3_tasteOf_32 ?_
      refine lv_aload_n hx hb dX3_tasteOf_35 rfl (lv_at hl 1 rfl) ?_
      refine va_get (D := D) (ci := 3) (v := .ref ah) (C := RX3) (T := TX3) (N := 13) hx hb hts (by decide +kernel) hown hK hP (0) rfl rfl 2 (by decide) (hts (.fieldLink RX3 16 "VinegarLoftModel" "holds" "[D") (by decide +kernel)) (fun _ h9 => h9) rfl dX3_tasteOf_36 ?_
      refine lv_bipush (v := 8) hx hb dX3_tasteOf_39 (by decide) ?_
      refine lv_iload_n hx hb dX3_tasteOf_41 rfl (lv_at hl 2 rfl) ?_
      refine lv_iadd hx hb dX3_tasteOf_42 ?_
      refine kx_dald hx hb hK hP 3 1 rfl rfl (j := 8 + j) (ixc 8 j) (show 8 + j < 32 by omega) (by decide) dX3_tasteOf_43 ?_
      refine lv_dmul hx hb dX3_tasteOf_44 a3 ?_
      refine lv_ldc2d hx hb hown (hts (.constantDouble RX3 82 4605380978949069210) (by decide +kernel)) dX3_tasteOf_45 ?_
      refine lv_aload_n hx hb dX3_tasteOf_48 rfl (lv_at hl 1 rfl) ?_
      refine va_get (D := D) (ci := 3) (v := .ref ah) (C := RX3) (T := TX3) (N := 13) hx hb hts (by decide +kernel) hown hK hP (0) rfl rfl 2 (by decide) (hts (.fieldLink RX3 16 "VinegarLoftModel" "holds" "[D") (by decide +kernel)) (fun _ h9 => h9) rfl dX3_tasteOf_49 ?_
      refine lv_bipush (v := 24) hx hb dX3_tasteOf_52 (by decide) ?_
      refine lv_iload_n hx hb dX3_tasteOf_54 rfl (lv_at hl 2 rfl) ?_
      refine lv_iadd hx hb dX3_tasteOf_55 ?_
      refine kx_dald hx hb hK hP 3 1 rfl rfl (j := 24 + j) (ixc 24 j) (show 24 + j < 32 by omega) (by decide) dX3_tasteOf_56 ?_
      refine lv_dmul hx hb dX3_tasteOf_57 a4 ?_
      refine lv_dadd hx hb dX3_tasteOf_58 a5 ?_
      refine lv_ldc2d hx hb hown (hts (.constantDouble RX3 150 4613937818241073152) (by decide +kernel)) dX3_tasteOf_59 ?_
      refine lv_dload_n hx hb dX3_tasteOf_62 rfl (lv_at hl 0 rfl) ?_
      refine kd_0 hx hb dX3_tasteOf_63 ?_
      refine kd_ge (tgt := 73) hx hb dX3_tasteOf_64 dX3_tasteOf_65 (by decide) a2 (fun c64 => ?_) (fun c64 => ?_)
      · refine lv_dload_n hx hb dX3_tasteOf_73 rfl (lv_at hl 0 rfl) ?_
        refine kd_eq (show (FP.dsub (h (16 + j)) 4618441417868443648) = absv (FP.dsub (h (16 + j)) 4618441417868443648) from by unfold absv; rw [if_neg c64]) ?_
        refine lv_dmul hx hb dX3_tasteOf_74 a6 ?_
        refine lv_dsub hx hb dX3_tasteOf_75 a7 ?_
        have hP : va_P D vwCl (modW y aw az ah ak cI cD (nI n) wm ys q qf yo ri ol (thI n (nI j)) wd zs h kp) H := by rw [thI_n g]; exact hP
        have hD : va_D A (modW y aw az ah ak cI cD (nI n) wm ys q qf yo ri ol (thI n (nI j)) wd zs h kp) := by rw [thI_n g]; exact hD
        exact W.dret hx hb hr (fun t ht hW => ⟨⟨_, (), rfl, by rw [thI_n g, if_pos rfl, nI_clamp (show j < 2 ^ 31 by omega)]; unfold tasv; rw [if_pos (emp0.mp c13)], by rw [ht]; exact hP, va_K.moved hW.alike hK, hD⟩, hS.F ht⟩) hS.2.2 dX3_tasteOf_76
      · refine lv_dload_n hx hb dX3_tasteOf_68 rfl (lv_at hl 0 rfl) ?_
        refine lv_dneg hx hb dX3_tasteOf_69 ?_
        refine lv_goto (tgt := 74) hx hb dX3_tasteOf_70 (by decide) ?_
        refine kd_eq (show (FP.dneg (FP.dsub (h (16 + j)) 4618441417868443648)) = absv (FP.dsub (h (16 + j)) 4618441417868443648) from by unfold absv; rw [if_pos c64]) ?_
        refine lv_dmul hx hb dX3_tasteOf_74 a6 ?_
        refine lv_dsub hx hb dX3_tasteOf_75 a7 ?_
        have hP : va_P D vwCl (modW y aw az ah ak cI cD (nI n) wm ys q qf yo ri ol (thI n (nI j)) wd zs h kp) H := by rw [thI_n g]; exact hP
        have hD : va_D A (modW y aw az ah ak cI cD (nI n) wm ys q qf yo ri ol (thI n (nI j)) wd zs h kp) := by rw [thI_n g]; exact hD
        exact W.dret hx hb hr (fun t ht hW => ⟨⟨_, (), rfl, by rw [thI_n g, if_pos rfl, nI_clamp (show j < 2 ^ 31 by omega)]; unfold tasv; rw [if_pos (emp0.mp c13)], by rw [ht]; exact hP, va_K.moved hW.alike hK, hD⟩, hS.F ht⟩) hS.2.2 dX3_tasteOf_76
    · refine kd_0 hx hb dX3_tasteOf_16 ?_
      have hP : va_P D vwCl (modW y aw az ah ak cI cD (nI n) wm ys q qf yo ri ol (thI n (nI j)) wd zs h kp) H := by rw [thI_n g]; exact hP
      have hD : va_D A (modW y aw az ah ak cI cD (nI n) wm ys q qf yo ri ol (thI n (nI j)) wd zs h kp) := by rw [thI_n g]; exact hD
      exact W.dret hx hb hr (fun t ht hW => ⟨⟨_, (), rfl, by rw [thI_n g, if_pos rfl, nI_clamp (show j < 2 ^ 31 by omega)]; unfold tasv; rw [if_neg (fun h9 => c13 (emp0.mpr h9))], by rw [ht]; exact hP, va_K.moved hW.alike hK, hD⟩, hS.F ht⟩) hS.2.2 dX3_tasteOf_17

set_option maxHeartbeats 4000000 in
set_option maxRecDepth 100000 in
theorem metX3_mean (l : Launch) (D : va_G) (sz : Nat) (y aw az ah ak : Nat) (cI cD : ClassId) (n : Nat) (hn : n ≤ 8) (wm ys : Int32) (q : UInt64) (qf yo ri ol th : Int32) (wd zs : Nat → Int32) (h kp : Nat → UInt64) (o : Nat) (ho : o = 8 ∨ o = 24) (hN : NNr n h) (hm : mnM o h n) : Met l yX3_mean wsX3_mean { frames := 1, cells := 0, slots := 0, locals := 21 } (Pm D [(cI, .int), (cD, .double)] [.ref y, .int (nI o)] (modW y aw az ah ak cI cD (nI n) wm ys q qf yo ri ol th wd zs h kp) sz) (va_Qd (fun (r : UInt64) (_ : Unit) => r = mnv o h n) (Bm D [(cI, .int), (cD, .double)] (va_A (modW y aw az ah ak cI cD (nI n) wm ys q qf yo ri ol th wd zs h kp) sz) (modW y aw az ah ak cI cD (nI n) wm ys q qf yo ri ol 0 wd zs h kp)) (va_A (modW y aw az ah ak cI cD (nI n) wm ys q qf yo ri ol th wd zs h kp) sz)) 0 0 (va_A (modW y aw az ah ak cI cD (nI n) wm ys q qf yo ri ol th wd zs h kp) sz) := by
  refine Met.ofW (cc := cX3_mean) (maxL := 8) (ret := (some .double)) (by decide) rfl ?_
  intro p e s m args below meth c s₁ B hml hv
  obtain ⟨rfl, hsz, hP, hK, hD0⟩ := hv
  have hx := B.exec
  have hb := B.bytes
  have hr := B.returns
  have hts := atoms_spec (ws := wsX3_mean) B.pre
  have hown : s.vm.findClass RX3 = some m.cls := findClass_of_methodNamed B.named
  have hlocks := B.notSynchronized
  subst hsz
  have hD := hD0.self (sz := s.heap.size)
  generalize hAe : va_A (modW y aw az ah ak cI cD (nI n) wm ys q qf yo ri ol th wd zs h kp) s.heap.size = A at hD ⊢
  have hA : ∀ q : Nat, s.heap.size ≤ q → A q := fun q h => by rw [← hAe]; exact Or.inr h
  refine kW_H (fun H hH => ?_)
  have hP : va_P D vwCl (modW y aw az ah ak cI cD (nI n) wm ys q qf yo ri ol th wd zs h kp) H := by rw [hH]; exact hP
  have hS : va_S A s.heap H [] := by rw [hH]; exact va_S.rf
  have hl := lv_entry ([.ref y, .int (nI o)]) (n := 8) (Nat.le_of_ble_eq_true rfl)
  rw [lg_entry_eq]
  generalize (lg_sl ([.ref y, .int (nI o)]) ++ List.replicate (8 - (lg_sl ([.ref y, .int (nI o)])).length) Slot.unset).toArray = ls at hl ⊢
  have hl : lv_has ls 8 [(0, .ref y), (1, .int (nI o))] := hl
  obtain ⟨ml, mp, mq, md⟩ := hm
  refine lv_aload_n hx hb dX3_mean_0 rfl (lv_at hl 0 rfl) ?_
  refine lv_iconst (v := 0) hx hb dX3_mean_1 (by decide) ?_
  refine va_put (D := D) (ci := 3) (v := .int 0) (ty := .int) (C := RX3) (T := TX3) (N := 13) hx hb hts (by decide +kernel) tyX3 tyX3_ok nmX3 hown hK hP hD hS (0) rfl rfl 12 (by decide) (hts (.fieldLink RX3 30 "VinegarLoftModel" "thrown" "I") (by decide +kernel)) (fun _ h9 => h9) rfl (by decide +kernel) rfl rfl (Nat.le_of_ble_eq_true rfl) dX3_mean_2 (fun H locs hP hD hS => ?_)
  have hP : va_P D vwCl (modW y aw az ah ak cI cD (nI n) wm ys q qf yo ri ol 0 wd zs h kp) H := hP
  have hD : va_D A (modW y aw az ah ak cI cD (nI n) wm ys q qf yo ri ol 0 wd zs h kp) := hD
  refine kd_0 hx hb dX3_mean_5 ?_
  refine lv_dstore_n (lv' := [(2, .double 0), (0, .ref y), (1, .int (nI o))]) hx hb dX3_mean_6 rfl hl (by decide) rfl (fun ls hl => ?_)
  refine kd_0 hx hb dX3_mean_7 ?_
  refine lv_dstore (lv' := [(4, .double 0), (2, .double 0), (0, .ref y), (1, .int (nI o))]) hx hb dX3_mean_8 hl (by decide) rfl (fun ls hl => ?_)
  refine lv_iconst (v := 0) hx hb dX3_mean_10 (by decide) ?_
  refine lv_istore (lv' := [(6, .int 0), (4, .double 0), (2, .double 0), (0, .ref y), (1, .int (nI o))]) hx hb dX3_mean_11 hl (by decide) rfl (fun ls hl => ?_)
  refine lv_iconst (v := 0) hx hb dX3_mean_13 (by decide) ?_
  refine lv_istore (lv' := [(7, .int 0), (6, .int 0), (4, .double 0), (2, .double 0), (0, .ref y), (1, .int (nI o))]) hx hb dX3_mean_14 hl (by decide) rfl (fun ls hl => ?_)
  refine kW_up (n) (fun i H locs ls => va_P D vwCl (modW y aw az ah ak cI cD (nI n) wm ys q qf yo ri ol 0 wd zs h kp) H ∧ va_D A (modW y aw az ah ak cI cD (nI n) wm ys q qf yo ri ol 0 wd zs h kp) ∧ va_S A s.heap H locs ∧ lv_has ls 8 [(7, .int (nI i)), (6, .int (anyB h i)), (4, .double (suP o h i)), (2, .double (suL h i)), (1, .int (nI o)), (0, .ref y)]) (fun i H locs ls hi hI ih => ?_) (fun H locs ls hI => ?_) ⟨hP, hD, hS, lv_sub hl [0, 1, 2, 3, 5, 4] (rfl)⟩
  · obtain ⟨hP, hD, hS, hl⟩ := hI
    refine lv_iload hx hb dX3_mean_16 (lv_at hl 0 rfl) ?_
    refine lv_aload_n hx hb dX3_mean_18 rfl (lv_at hl 5 rfl) ?_
    refine va_get (D := D) (ci := 3) (v := .int (nI n)) (C := RX3) (T := TX3) (N := 13) hx hb hts (by decide +kernel) hown hK hP (0) rfl rfl 4 (by decide) (hts (.fieldLink RX3 33 "VinegarLoftModel" "many" "I") (by decide +kernel)) (fun _ h9 => h9) rfl dX3_mean_19 ?_
    refine lv_icmp_ge (tgt := 88) hx hb dX3_mean_22 (by decide) (fun c22 => absurd c22 (nI_ge hi (by omega))) (fun c22 => ?_)
    refine lv_iload hx hb dX3_mean_25 (lv_at hl 1 rfl) ?_
    refine lv_if_ne (tgt := 39) hx hb dX3_mean_27 (by decide) (fun c27 => ?_) (fun c27 => ?_)
    · refine lv_iconst (v := 1) hx hb dX3_mean_39 (by decide) ?_
      refine lv_goto (tgt := 44) hx hb dX3_mean_40 (by decide) ?_
      refine lv_istore (lv' := [(6, .int 1), (7, .int (nI i)), (4, .double (suP o h i)), (2, .double (suL h i)), (1, .int (nI o)), (0, .ref y)]) hx hb dX3_mean_44 hl (by decide) rfl (fun ls hl => ?_)
      refine lv_dload hx hb dX3_mean_46 (lv_at hl 2 rfl) ?_
      refine lv_aload_n hx hb dX3_mean_48 rfl (lv_at hl 5 rfl) ?_
      refine va_get (D := D) (ci := 3) (v := .ref ah) (C := RX3) (T := TX3) (N := 13) hx hb hts (by decide +kernel) hown hK hP (0) rfl rfl 2 (by decide) (hts (.fieldLink RX3 16 "VinegarLoftModel" "holds" "[D") (by decide +kernel)) (fun _ h9 => h9) rfl dX3_mean_49 ?_
      refine lv_iconst (v := 0) hx hb dX3_mean_52 (by decide) ?_
      refine lv_iload hx hb dX3_mean_53 (lv_at hl 1 rfl) ?_
      refine lv_iadd hx hb dX3_mean_55 ?_
      refine kx_dald hx hb hK hP 3 1 rfl rfl (j := i) (ix0 i) (show i < 32 by omega) (by decide) dX3_mean_56 ?_
      refine lv_aload_n hx hb dX3_mean_57 rfl (lv_at hl 5 rfl) ?_
      refine va_get (D := D) (ci := 3) (v := .ref ah) (C := RX3) (T := TX3) (N := 13) hx hb hts (by decide +kernel) hown hK hP (0) rfl rfl 2 (by decide) (hts (.fieldLink RX3 16 "VinegarLoftModel" "holds" "[D") (by decide +kernel)) (fun _ h9 => h9) rfl dX3_mean_58 ?_
      refine lv_iload_n hx hb dX3_mean_61 rfl (lv_at hl 4 rfl) ?_
      refine lv_iload hx hb dX3_mean_62 (lv_at hl 1 rfl) ?_
      refine lv_iadd hx hb dX3_mean_64 ?_
      refine kx_dald hx hb hK hP 3 1 rfl rfl (j := o + i) (ixc o i) (show o + i < 32 by omega) (by decide) dX3_mean_65 ?_
      refine lv_dmul hx hb dX3_mean_66 (mp i hi).1 ?_
      refine lv_dadd hx hb dX3_mean_67 (mp i hi).2 ?_
      refine lv_dstore (lv' := [(4, .double (FP.dadd (suP o h i) (FP.dmul (h i) (h (o + i))))), (6, .int 1), (7, .int (nI i)), (2, .double (suL h i)), (1, .int (nI o)), (0, .ref y)]) hx hb dX3_mean_68 hl (by decide) rfl (fun ls hl => ?_)
      refine lv_dload_n hx hb dX3_mean_70 rfl (lv_at hl 3 rfl) ?_
      refine lv_aload_n hx hb dX3_mean_71 rfl (lv_at hl 5 rfl) ?_
      refine va_get (D := D) (ci := 3) (v := .ref ah) (C := RX3) (T := TX3) (N := 13) hx hb hts (by decide +kernel) hown hK hP (0) rfl rfl 2 (by decide) (hts (.fieldLink RX3 16 "VinegarLoftModel" "holds" "[D") (by decide +kernel)) (fun _ h9 => h9) rfl dX3_mean_72 ?_
      refine lv_iconst (v := 0) hx hb dX3_mean_75 (by decide) ?_
      refine lv_iload hx hb dX3_mean_76 (lv_at hl 2 rfl) ?_
      refine lv_iadd hx hb dX3_mean_78 ?_
      refine kx_dald hx hb hK hP 3 1 rfl rfl (j := i) (ix0 i) (show i < 32 by omega) (by decide) dX3_mean_79 ?_
      refine lv_dadd hx hb dX3_mean_80 (ml i hi) ?_
      refine lv_dstore_n (lv' := [(2, .double (FP.dadd (suL h i) (h i))), (4, .double (FP.dadd (suP o h i) (FP.dmul (h i) (h (o + i))))), (6, .int 1), (7, .int (nI i)), (1, .int (nI o)), (0, .ref y)]) hx hb dX3_mean_81 rfl hl (by decide) rfl (fun ls hl => ?_)
      refine lv_iinc (v := nI (i + 1)) (lv' := [(7, .int (nI (i + 1))), (2, .double (FP.dadd (suL h i) (h i))), (4, .double (FP.dadd (suP o h i) (FP.dmul (h i) (h (o + i))))), (6, .int 1), (1, .int (nI o)), (0, .ref y)]) hx hb dX3_mean_82 hl (k := 3) rfl (nI_1 i) (by decide) rfl (fun ls hl => ?_)
      refine lv_goto (tgt := 16) hx hb dX3_mean_85 (by decide) ?_
      have e1 : anyB h (i + 1) = 1 := by show (if anyB h i = 0 then _ else _) = _; rw [if_neg c27]
      exact ih H locs ls ⟨hP, hD, hS, lv_sub hl [0, 3, 2, 1, 4, 5] (by rw [e1]; rfl)⟩
    · refine lv_aload_n hx hb dX3_mean_30 rfl (lv_at hl 5 rfl) ?_
      refine lv_iload hx hb dX3_mean_31 (lv_at hl 0 rfl) ?_
      refine kr_i (W.runV (As := [.int (nI i)]) (rest := []) ⟨hx, hb, hml, hown, hts⟩ (metX3_isEmpty l D y aw az ah ak cI cD n (by omega) wm ys q qf yo ri ol 0 wd zs h kp i (by omega) (nn_ne0 (hN i hi).1)) (cwV 1 hts gX3_mean_X3_isEmpty rfl rfl rfl (by decide +kernel) ⟨Nat.le_of_ble_eq_true rfl, Nat.le_of_ble_eq_true rfl⟩) (prV 3 0 RX3 TX3 13 rfl rfl hP hK) rfl rfl hl.1 rfl (lv_room (Nat.le_of_ble_eq_true rfl)) dX3_mean_33 ⟨Nat.le_of_ble_eq_true rfl, Nat.le_of_ble_eq_true rfl⟩) ?_
      refine lv_if_ne (tgt := 43) hx hb dX3_mean_36 (by decide) (fun c36 => ?_) (fun c36 => ?_)
      · refine lv_iconst (v := 0) hx hb dX3_mean_43 (by decide) ?_
        refine lv_istore (lv' := [(6, .int 0), (7, .int (nI i)), (4, .double (suP o h i)), (2, .double (suL h i)), (1, .int (nI o)), (0, .ref y)]) hx hb dX3_mean_44 hl (by decide) rfl (fun ls hl => ?_)
        refine lv_dload hx hb dX3_mean_46 (lv_at hl 2 rfl) ?_
        refine lv_aload_n hx hb dX3_mean_48 rfl (lv_at hl 5 rfl) ?_
        refine va_get (D := D) (ci := 3) (v := .ref ah) (C := RX3) (T := TX3) (N := 13) hx hb hts (by decide +kernel) hown hK hP (0) rfl rfl 2 (by decide) (hts (.fieldLink RX3 16 "VinegarLoftModel" "holds" "[D") (by decide +kernel)) (fun _ h9 => h9) rfl dX3_mean_49 ?_
        refine lv_iconst (v := 0) hx hb dX3_mean_52 (by decide) ?_
        refine lv_iload hx hb dX3_mean_53 (lv_at hl 1 rfl) ?_
        refine lv_iadd hx hb dX3_mean_55 ?_
        refine kx_dald hx hb hK hP 3 1 rfl rfl (j := i) (ix0 i) (show i < 32 by omega) (by decide) dX3_mean_56 ?_
        refine lv_aload_n hx hb dX3_mean_57 rfl (lv_at hl 5 rfl) ?_
        refine va_get (D := D) (ci := 3) (v := .ref ah) (C := RX3) (T := TX3) (N := 13) hx hb hts (by decide +kernel) hown hK hP (0) rfl rfl 2 (by decide) (hts (.fieldLink RX3 16 "VinegarLoftModel" "holds" "[D") (by decide +kernel)) (fun _ h9 => h9) rfl dX3_mean_58 ?_
        refine lv_iload_n hx hb dX3_mean_61 rfl (lv_at hl 4 rfl) ?_
        refine lv_iload hx hb dX3_mean_62 (lv_at hl 1 rfl) ?_
        refine lv_iadd hx hb dX3_mean_64 ?_
        refine kx_dald hx hb hK hP 3 1 rfl rfl (j := o + i) (ixc o i) (show o + i < 32 by omega) (by decide) dX3_mean_65 ?_
        refine lv_dmul hx hb dX3_mean_66 (mp i hi).1 ?_
        refine lv_dadd hx hb dX3_mean_67 (mp i hi).2 ?_
        refine lv_dstore (lv' := [(4, .double (FP.dadd (suP o h i) (FP.dmul (h i) (h (o + i))))), (6, .int 0), (7, .int (nI i)), (2, .double (suL h i)), (1, .int (nI o)), (0, .ref y)]) hx hb dX3_mean_68 hl (by decide) rfl (fun ls hl => ?_)
        refine lv_dload_n hx hb dX3_mean_70 rfl (lv_at hl 3 rfl) ?_
        refine lv_aload_n hx hb dX3_mean_71 rfl (lv_at hl 5 rfl) ?_
        refine va_get (D := D) (ci := 3) (v := .ref ah) (C := RX3) (T := TX3) (N := 13) hx hb hts (by decide +kernel) hown hK hP (0) rfl rfl 2 (by decide) (hts (.fieldLink RX3 16 "VinegarLoftModel" "holds" "[D") (by decide +kernel)) (fun _ h9 => h9) rfl dX3_mean_72 ?_
        refine lv_iconst (v := 0) hx hb dX3_mean_75 (by decide) ?_
        refine lv_iload hx hb dX3_mean_76 (lv_at hl 2 rfl) ?_
        refine lv_iadd hx hb dX3_mean_78 ?_
        refine kx_dald hx hb hK hP 3 1 rfl rfl (j := i) (ix0 i) (show i < 32 by omega) (by decide) dX3_mean_79 ?_
        refine lv_dadd hx hb dX3_mean_80 (ml i hi) ?_
        refine lv_dstore_n (lv' := [(2, .double (FP.dadd (suL h i) (h i))), (4, .double (FP.dadd (suP o h i) (FP.dmul (h i) (h (o + i))))), (6, .int 0), (7, .int (nI i)), (1, .int (nI o)), (0, .ref y)]) hx hb dX3_mean_81 rfl hl (by decide) rfl (fun ls hl => ?_)
        refine lv_iinc (v := nI (i + 1)) (lv' := [(7, .int (nI (i + 1))), (2, .double (FP.dadd (suL h i) (h i))), (4, .double (FP.dadd (suP o h i) (FP.dmul (h i) (h (o + i))))), (6, .int 0), (1, .int (nI o)), (0, .ref y)]) hx hb dX3_mean_82 hl (k := 3) rfl (nI_1 i) (by decide) rfl (fun ls hl => ?_)
        refine lv_goto (tgt := 16) hx hb dX3_mean_85 (by decide) ?_
        have e1 : anyB h (i + 1) = 0 := by show (if anyB h i = 0 then _ else _) = _; rw [if_pos c27, if_neg (fun h9 => c36 (emp0.mpr h9))]
        exact ih H locs ls ⟨hP, hD, hS, lv_sub hl [0, 3, 2, 1, 4, 5] (by rw [e1]; rfl)⟩
      · refine lv_iconst (v := 1) hx hb dX3_mean_39 (by decide) ?_
        refine lv_goto (tgt := 44) hx hb dX3_mean_40 (by decide) ?_
        refine lv_istore (lv' := [(6, .int 1), (7, .int (nI i)), (4, .double (suP o h i)), (2, .double (suL h i)), (1, .int (nI o)), (0, .ref y)]) hx hb dX3_mean_44 hl (by decide) rfl (fun ls hl => ?_)
        refine lv_dload hx hb dX3_mean_46 (lv_at hl 2 rfl) ?_
        refine lv_aload_n hx hb dX3_mean_48 rfl (lv_at hl 5 rfl) ?_
        refine va_get (D := D) (ci := 3) (v := .ref ah) (C := RX3) (T := TX3) (N := 13) hx hb hts (by decide +kernel) hown hK hP (0) rfl rfl 2 (by decide) (hts (.fieldLink RX3 16 "VinegarLoftModel" "holds" "[D") (by decide +kernel)) (fun _ h9 => h9) rfl dX3_mean_49 ?_
        refine lv_iconst (v := 0) hx hb dX3_mean_52 (by decide) ?_
        refine lv_iload hx hb dX3_mean_53 (lv_at hl 1 rfl) ?_
        refine lv_iadd hx hb dX3_mean_55 ?_
        refine kx_dald hx hb hK hP 3 1 rfl rfl (j := i) (ix0 i) (show i < 32 by omega) (by decide) dX3_mean_56 ?_
        refine lv_aload_n hx hb dX3_mean_57 rfl (lv_at hl 5 rfl) ?_
        refine va_get (D := D) (ci := 3) (v := .ref ah) (C := RX3) (T := TX3) (N := 13) hx hb hts (by decide +kernel) hown hK hP (0) rfl rfl 2 (by decide) (hts (.fieldLink RX3 16 "VinegarLoftModel" "holds" "[D") (by decide +kernel)) (fun _ h9 => h9) rfl dX3_mean_58 ?_
        refine lv_iload_n hx hb dX3_mean_61 rfl (lv_at hl 4 rfl) ?_
        refine lv_iload hx hb dX3_mean_62 (lv_at hl 1 rfl) ?_
        refine lv_iadd hx hb dX3_mean_64 ?_
        refine kx_dald hx hb hK hP 3 1 rfl rfl (j := o + i) (ixc o i) (show o + i < 32 by omega) (by decide) dX3_mean_65 ?_
        refine lv_dmul hx hb dX3_mean_66 (mp i hi).1 ?_
        refine lv_dadd hx hb dX3_mean_67 (mp i hi).2 ?_
        refine lv_dstore (lv' := [(4, .double (FP.dadd (suP o h i) (FP.dmul (h i) (h (o + i))))), (6, .int 1), (7, .int (nI i)), (2, .double (suL h i)), (1, .int (nI o)), (0, .ref y)]) hx hb dX3_mean_68 hl (by decide) rfl (fun ls hl => ?_)
        refine lv_dload_n hx hb dX3_mean_70 rfl (lv_at hl 3 rfl) ?_
        refine lv_aload_n hx hb dX3_mean_71 rfl (lv_at hl 5 rfl) ?_
        refine va_get (D := D) (ci := 3) (v := .ref ah) (C := RX3) (T := TX3) (N := 13) hx hb hts (by decide +kernel) hown hK hP (0) rfl rfl 2 (by decide) (hts (.fieldLink RX3 16 "VinegarLoftModel" "holds" "[D") (by decide +kernel)) (fun _ h9 => h9) rfl dX3_mean_72 ?_
        refine lv_iconst (v := 0) hx hb dX3_mean_75 (by decide) ?_
        refine lv_iload hx hb dX3_mean_76 (lv_at hl 2 rfl) ?_
        refine lv_iadd hx hb dX3_mean_78 ?_
        refine kx_dald hx hb hK hP 3 1 rfl rfl (j := i) (ix0 i) (show i < 32 by omega) (by decide) dX3_mean_79 ?_
        refine lv_dadd hx hb dX3_mean_80 (ml i hi) ?_
        refine lv_dstore_n (lv' := [(2, .double (FP.dadd (suL h i) (h i))), (4, .double (FP.dadd (suP o h i) (FP.dmul (h i) (h (o + i))))), (6, .int 1), (7, .int (nI i)), (1, .int (nI o)), (0, .ref y)]) hx hb dX3_mean_81 rfl hl (by decide) rfl (fun ls hl => ?_)
        refine lv_iinc (v := nI (i + 1)) (lv' := [(7, .int (nI (i + 1))), (2, .double (FP.dadd (suL h i) (h i))), (4, .double (FP.dadd (suP o h i) (FP.dmul (h i) (h (o + i))))), (6, .int 1), (1, .int (nI o)), (0, .ref y)]) hx hb dX3_mean_82 hl (k := 3) rfl (nI_1 i) (by decide) rfl (fun ls hl => ?_)
        refine lv_goto (tgt := 16) hx hb dX3_mean_85 (by decide) ?_
        have e1 : anyB h (i + 1) = 1 := by show (if anyB h i = 0 then _ else _) = _; rw [if_pos c27, if_pos (emp0.mp c36)]
        exact ih H locs ls ⟨hP, hD, hS, lv_sub hl [0, 3, 2, 1, 4, 5] (by rw [e1]; rfl)⟩
  · obtain ⟨hP, hD, hS, hl⟩ := hI
    refine lv_iload hx hb dX3_mean_16 (lv_at hl 0 rfl) ?_
    refine lv_aload_n hx hb dX3_mean_18 rfl (lv_at hl 5 rfl) ?_
    refine va_get (D := D) (ci := 3) (v := .int (nI n)) (C := RX3) (T := TX3) (N := 13) hx hb hts (by decide +kernel) hown hK hP (0) rfl rfl 4 (by decide) (hts (.fieldLink RX3 33 "VinegarLoftModel" "many" "I") (by decide +kernel)) (fun _ h9 => h9) rfl dX3_mean_19 ?_
    refine lv_icmp_ge (tgt := 88) hx hb dX3_mean_22 (by decide) (fun c22 => ?_) (fun c22 => absurd (nI_le (Nat.le_refl n) (by omega)) c22)
    refine lv_iload hx hb dX3_mean_88 (lv_at hl 1 rfl) ?_
    refine lv_if_eq (tgt := 100) hx hb dX3_mean_90 (by decide) (fun c90 => ?_) (fun c90 => ?_)
    · refine kd_0 hx hb dX3_mean_100 ?_
      exact W.dret hx hb hr (fun t ht hW => ⟨⟨_, (), rfl, by unfold mnv; rw [if_neg (mq.mp c90)], by rw [ht]; exact hP, va_K.moved hW.alike hK, hD⟩, hS.F ht⟩) hS.2.2 dX3_mean_101
    · refine lv_dload hx hb dX3_mean_93 (lv_at hl 2 rfl) ?_
      refine lv_dload_n hx hb dX3_mean_95 rfl (lv_at hl 3 rfl) ?_
      refine lv_ddiv hx hb dX3_mean_96 (md c90) ?_
      refine lv_goto (tgt := 101) hx hb dX3_mean_97 (by decide) ?_
      exact W.dret hx hb hr (fun t ht hW => ⟨⟨_, (), rfl, by unfold mnv; rw [if_pos (Classical.byContradiction fun h9 => c90 (mq.mpr h9))], by rw [ht]; exact hP, va_K.moved hW.alike hK, hD⟩, hS.F ht⟩) hS.2.2 dX3_mean_101

set_option maxHeartbeats 4000000 in
set_option maxRecDepth 100000 in
theorem metX3_meanAge (l : Launch) (D : va_G) (sz : Nat) (y aw az ah ak : Nat) (cI cD : ClassId) (n : Nat) (hn : n ≤ 8) (wm ys : Int32) (q : UInt64) (qf yo ri ol th : Int32) (wd zs : Nat → Int32) (h kp : Nat → UInt64) (hN : NNr n h) (hm : mnM 8 h n) : Met l yX3_meanAge wsX3_meanAge { frames := 2, cells := 0, slots := 0, locals := 48 } (Pm D [(cI, .int), (cD, .double)] [.ref y] (modW y aw az ah ak cI cD (nI n) wm ys q qf yo ri ol th wd zs h kp) sz) (va_Qd (fun (r : UInt64) (_ : Unit) => r = mnv 8 h n) (Bm D [(cI, .int), (cD, .double)] (va_A (modW y aw az ah ak cI cD (nI n) wm ys q qf yo ri ol th wd zs h kp) sz) (modW y aw az ah ak cI cD (nI n) wm ys q qf yo ri ol 0 wd zs h kp)) (va_A (modW y aw az ah ak cI cD (nI n) wm ys q qf yo ri ol th wd zs h kp) sz)) 0 0 (va_A (modW y aw az ah ak cI cD (nI n) wm ys q qf yo ri ol th wd zs h kp) sz) := by
  refine Met.ofW (cc := cX3_meanAge) (maxL := 1) (ret := (some .double)) (by decide) rfl ?_
  intro p e s m args below meth c s₁ B hml hv
  obtain ⟨rfl, hsz, hP, hK, hD0⟩ := hv
  have hx := B.exec
  have hb := B.bytes
  have hr := B.returns
  have hts := atoms_spec (ws := wsX3_meanAge) B.pre
  have hown : s.vm.findClass RX3 = some m.cls := findClass_of_methodNamed B.named
  have hlocks := B.notSynchronized
  subst hsz
  have hD := hD0.self (sz := s.heap.size)
  generalize hAe : va_A (modW y aw az ah ak cI cD (nI n) wm ys q qf yo ri ol th wd zs h kp) s.heap.size = A at hD ⊢
  have hA : ∀ q : Nat, s.heap.size ≤ q → A q := fun q h => by rw [← hAe]; exact Or.inr h
  refine kW_H (fun H hH => ?_)
  have hP : va_P D vwCl (modW y aw az ah ak cI cD (nI n) wm ys q qf yo ri ol th wd zs h kp) H := by rw [hH]; exact hP
  have hS : va_S A s.heap H [] := by rw [hH]; exact va_S.rf
  have hl := lv_entry ([.ref y]) (n := 1) (Nat.le_of_ble_eq_true rfl)
  rw [lg_entry_eq]
  generalize (lg_sl ([.ref y]) ++ List.replicate (1 - (lg_sl ([.ref y])).length) Slot.unset).toArray = ls at hl ⊢
  have hl : lv_has ls 1 [(0, .ref y)] := hl
  refine lv_aload_n hx hb dX3_meanAge_0 rfl (lv_at hl 0 rfl) ?_
  refine lv_bipush (v := 8) hx hb dX3_meanAge_1 (by decide) ?_
  refine kw_d (va_runV (As := [.int 8]) (rest := []) ⟨hx, hb, hml, hown, hts⟩ (metX3_mean l D H.size y aw az ah ak cI cD n (by omega) wm ys q qf yo ri ol th wd zs h kp 8 (by decide) hN hm) (cwV 1 hts gX3_meanAge_X3_mean rfl rfl rfl (by decide +kernel) ⟨Nat.le_of_ble_eq_true rfl, Nat.le_of_ble_eq_true rfl⟩) (pmV 3 0 RX3 TX3 13 rfl rfl hP hK hD) rfl rfl hl.1 rfl (lv_room (Nat.le_of_ble_eq_true rfl)) dX3_meanAge_3 ⟨Nat.le_of_ble_eq_true rfl, Nat.le_of_ble_eq_true rfl⟩) hP hD hS hA (fun H locs hP hD hS => ?_)
  have hP : va_P D vwCl (modW y aw az ah ak cI cD (nI n) wm ys q qf yo ri ol 0 wd zs h kp) H := hP
  have hD : va_D A (modW y aw az ah ak cI cD (nI n) wm ys q qf yo ri ol 0 wd zs h kp) := hD
  exact W.dret hx hb hr (fun t ht hW => ⟨⟨_, (), rfl, rfl, by rw [ht]; exact hP, va_K.moved hW.alike hK, hD⟩, hS.F ht⟩) hS.2.2 dX3_meanAge_6

set_option maxHeartbeats 4000000 in
set_option maxRecDepth 100000 in
theorem metX3_meanSugar (l : Launch) (D : va_G) (sz : Nat) (y aw az ah ak : Nat) (cI cD : ClassId) (n : Nat) (hn : n ≤ 8) (wm ys : Int32) (q : UInt64) (qf yo ri ol th : Int32) (wd zs : Nat → Int32) (h kp : Nat → UInt64) (hN : NNr n h) (hm : mnM 24 h n) : Met l yX3_meanSugar wsX3_meanSugar { frames := 2, cells := 0, slots := 0, locals := 48 } (Pm D [(cI, .int), (cD, .double)] [.ref y] (modW y aw az ah ak cI cD (nI n) wm ys q qf yo ri ol th wd zs h kp) sz) (va_Qd (fun (r : UInt64) (_ : Unit) => r = mnv 24 h n) (Bm D [(cI, .int), (cD, .double)] (va_A (modW y aw az ah ak cI cD (nI n) wm ys q qf yo ri ol th wd zs h kp) sz) (modW y aw az ah ak cI cD (nI n) wm ys q qf yo ri ol 0 wd zs h kp)) (va_A (modW y aw az ah ak cI cD (nI n) wm ys q qf yo ri ol th wd zs h kp) sz)) 0 0 (va_A (modW y aw az ah ak cI cD (nI n) wm ys q qf yo ri ol th wd zs h kp) sz) := by
  refine Met.ofW (cc := cX3_meanSugar) (maxL := 1) (ret := (some .double)) (by decide) rfl ?_
  intro p e s m args below meth c s₁ B hml hv
  obtain ⟨rfl, hsz, hP, hK, hD0⟩ := hv
  have hx := B.exec
  have hb := B.bytes
  have hr := B.returns
  have hts := atoms_spec (ws := wsX3_meanSugar) B.pre
  have hown : s.vm.findClass RX3 = some m.cls := findClass_of_methodNamed B.named
  have hlocks := B.notSynchronized
  subst hsz
  have hD := hD0.self (sz := s.heap.size)
  generalize hAe : va_A (modW y aw az ah ak cI cD (nI n) wm ys q qf yo ri ol th wd zs h kp) s.heap.size = A at hD ⊢
  have hA : ∀ q : Nat, s.heap.size ≤ q → A q := fun q h => by rw [← hAe]; exact Or.inr h
  refine kW_H (fun H hH => ?_)
  have hP : va_P D vwCl (modW y aw az ah ak cI cD (nI n) wm ys q qf yo ri ol th wd zs h kp) H := by rw [hH]; exact hP
  have hS : va_S A s.heap H [] := by rw [hH]; exact va_S.rf
  have hl := lv_entry ([.ref y]) (n := 1) (Nat.le_of_ble_eq_true rfl)
  rw [lg_entry_eq]
  generalize (lg_sl ([.ref y]) ++ List.replicate (1 - (lg_sl ([.ref y])).length) Slot.unset).toArray = ls at hl ⊢
  have hl : lv_has ls 1 [(0, .ref y)] := hl
  refine lv_aload_n hx hb dX3_meanSugar_0 rfl (lv_at hl 0 rfl) ?_
  refine lv_bipush (v := 24) hx hb dX3_meanSugar_1 (by decide) ?_
  refine kw_d (va_runV (As := [.int 24]) (rest := []) ⟨hx, hb, hml, hown, hts⟩ (metX3_mean l D H.size y aw az ah ak cI cD n (by omega) wm ys q qf yo ri ol th wd zs h kp 24 (by decide) hN hm) (cwV 1 hts gX3_meanSugar_X3_mean rfl rfl rfl (by decide +kernel) ⟨Nat.le_of_ble_eq_true rfl, Nat.le_of_ble_eq_true rfl⟩) (pmV 3 0 RX3 TX3 13 rfl rfl hP hK hD) rfl rfl hl.1 rfl (lv_room (Nat.le_of_ble_eq_true rfl)) dX3_meanSugar_3 ⟨Nat.le_of_ble_eq_true rfl, Nat.le_of_ble_eq_true rfl⟩) hP hD hS hA (fun H locs hP hD hS => ?_)
  have hP : va_P D vwCl (modW y aw az ah ak cI cD (nI n) wm ys q qf yo ri ol 0 wd zs h kp) H := hP
  have hD : va_D A (modW y aw az ah ak cI cD (nI n) wm ys q qf yo ri ol 0 wd zs h kp) := hD
  exact W.dret hx hb hr (fun t ht hW => ⟨⟨_, (), rfl, rfl, by rw [ht]; exact hP, va_K.moved hW.alike hK, hD⟩, hS.F ht⟩) hS.2.2 dX3_meanSugar_6

