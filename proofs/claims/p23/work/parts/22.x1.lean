/-! VinegarLoft$Row: its methods (laid by wip/p23/prog/x1.py) -/
set_option maxHeartbeats 4000000 in
set_option maxRecDepth 100000 in
theorem metX1_isComplete (l : Launch) (D : va_G) (r la : Nat) (bs : Nat → Nat) (cA : ClassId) (n : Nat) (hn : n ≤ 8) (wm df : Int32) (q : UInt64) (wd zs : Nat → Int32) (h : Nat → UInt64)  : Met l yX1_isComplete wsX1_isComplete { frames := 0, cells := 0, slots := 0, locals := 0 } (Pr D [(cA, .object "VinegarLoft$Barrel")] [.ref r] (rowW r la bs cA (nI n) wm df q wd zs h)) (vp_Si (fun r : Int32 => r = (if nI n < 8 then 0 else 1))) 0 0 (fun _ => False) := by
  refine Met.ofW (cc := cX1_isComplete) (maxL := 1) (ret := (some .boolean)) (by decide) rfl ?_
  intro p e s m args below meth c s₁ B hml hv
  obtain ⟨rfl, hP, hK⟩ := hv
  have hx := B.exec
  have hb := B.bytes
  have hr := B.returns
  have hts := atoms_spec (ws := wsX1_isComplete) B.pre
  have hown : s.vm.findClass RX1 = some m.cls := findClass_of_methodNamed B.named
  have hlocks := B.notSynchronized
  have hl := lv_entry ([.ref r]) (n := 1) (Nat.le_of_ble_eq_true rfl)
  rw [lg_entry_eq]
  generalize (lg_sl ([.ref r]) ++ List.replicate (1 - (lg_sl ([.ref r])).length) Slot.unset).toArray = ls at hl ⊢
  have hl : lv_has ls 1 [(0, .ref r)] := hl
  refine lv_aload_n hx hb dX1_isComplete_0 rfl (lv_at hl 0 rfl) ?_
  refine va_get (D := D) (ci := 1) (v := .int (nI n)) (C := RX1) (T := TX1) (N := 5) hx hb hts (by decide +kernel) hown hK hP (0) rfl rfl 1 (by decide) (hts (.fieldLink RX1 18 "VinegarLoft$Row" "count" "I") (by decide +kernel)) (fun _ h9 => h9) rfl dX1_isComplete_1 ?_
  refine lv_aload_n hx hb dX1_isComplete_4 rfl (lv_at hl 0 rfl) ?_
  refine va_get (D := D) (ci := 1) (v := .ref la) (C := RX1) (T := TX1) (N := 5) hx hb hts (by decide +kernel) hown hK hP (0) rfl rfl 0 (by decide) (hts (.fieldLink RX1 11 "VinegarLoft$Row" "line" "[LVinegarLoft$Barrel;") (by decide +kernel)) (fun _ h9 => h9) rfl dX1_isComplete_5 ?_
  refine va_alen hx hb hK hP 1 0 (v := 8) rfl rfl rfl dX1_isComplete_8 ?_
  refine lv_icmp_lt (tgt := 16) hx hb dX1_isComplete_9 (by decide) (fun c9 => ?_) (fun c9 => ?_)
  · refine lv_iconst (v := 0) hx hb dX1_isComplete_16 (by decide) ?_
    exact W.zret hx hb hr (by first | rfl | decide) (fun t ht hW => ⟨_, rfl, (if_pos c9).symm, ht⟩) (fun q hq => absurd hq List.not_mem_nil) dX1_isComplete_17
  · refine lv_iconst (v := 1) hx hb dX1_isComplete_12 (by decide) ?_
    refine lv_goto (tgt := 17) hx hb dX1_isComplete_13 (by decide) ?_
    exact W.zret hx hb hr (by first | rfl | decide) (fun t ht hW => ⟨_, rfl, (if_neg c9).symm, ht⟩) (fun q hq => absurd hq List.not_mem_nil) dX1_isComplete_17
set_option maxHeartbeats 4000000 in
set_option maxRecDepth 100000 in
theorem metX1_largestNext (l : Launch) (D : va_G) (r la : Nat) (bs : Nat → Nat) (cA : ClassId) (n : Nat) (hn : n ≤ 8) (wm df : Int32) (q : UInt64) (wd zs : Nat → Int32) (h : Nat → UInt64)  : Met l yX1_largestNext wsX1_largestNext { frames := 0, cells := 0, slots := 0, locals := 0 } (Pr D [(cA, .object "VinegarLoft$Barrel")] [.ref r] (rowW r la bs cA (nI n) wm df q wd zs h)) (vp_Si (fun r : Int32 => r = lgN zs n)) 0 0 (fun _ => False) := by
  refine Met.ofW (cc := cX1_largestNext) (maxL := 1) (ret := (some .int)) (by decide) rfl ?_
  intro p e s m args below meth c s₁ B hml hv
  obtain ⟨rfl, hP, hK⟩ := hv
  have hx := B.exec
  have hb := B.bytes
  have hr := B.returns
  have hts := atoms_spec (ws := wsX1_largestNext) B.pre
  have hown : s.vm.findClass RX1 = some m.cls := findClass_of_methodNamed B.named
  have hlocks := B.notSynchronized
  have hl := lv_entry ([.ref r]) (n := 1) (Nat.le_of_ble_eq_true rfl)
  rw [lg_entry_eq]
  generalize (lg_sl ([.ref r]) ++ List.replicate (1 - (lg_sl ([.ref r])).length) Slot.unset).toArray = ls at hl ⊢
  have hl : lv_has ls 1 [(0, .ref r)] := hl
  refine lv_aload_n hx hb dX1_largestNext_0 rfl (lv_at hl 0 rfl) ?_
  refine va_get (D := D) (ci := 1) (v := .int (nI n)) (C := RX1) (T := TX1) (N := 5) hx hb hts (by decide +kernel) hown hK hP (0) rfl rfl 1 (by decide) (hts (.fieldLink RX1 18 "VinegarLoft$Row" "count" "I") (by decide +kernel)) (fun _ h9 => h9) rfl dX1_largestNext_1 ?_
  refine lv_if_le (tgt := 26) hx hb dX1_largestNext_4 (by decide) (fun c4 => ?_) (fun c4 => ?_)
  · have h0 : n = 0 := (nI_le0 (by omega)).mp c4
    refine lv_bipush (v := 100) hx hb dX1_largestNext_26 (by decide) ?_
    exact W.iret hx hb hr (fun t ht hW => ⟨_, rfl, by unfold lgN; rw [if_pos h0], ht⟩) (fun q hq => absurd hq List.not_mem_nil) dX1_largestNext_28
  · have h0 : n ≠ 0 := fun h => c4 ((nI_le0 (by omega)).mpr h)
    refine lv_aload_n hx hb dX1_largestNext_7 rfl (lv_at hl 0 rfl) ?_
    refine va_get (D := D) (ci := 1) (v := .ref la) (C := RX1) (T := TX1) (N := 5) hx hb hts (by decide +kernel) hown hK hP (0) rfl rfl 0 (by decide) (hts (.fieldLink RX1 11 "VinegarLoft$Row" "line" "[LVinegarLoft$Barrel;") (by decide +kernel)) (fun _ h9 => h9) rfl dX1_largestNext_8 ?_
    refine lv_aload_n hx hb dX1_largestNext_11 rfl (lv_at hl 0 rfl) ?_
    refine va_get (D := D) (ci := 1) (v := .int (nI n)) (C := RX1) (T := TX1) (N := 5) hx hb hts (by decide +kernel) hown hK hP (0) rfl rfl 1 (by decide) (hts (.fieldLink RX1 18 "VinegarLoft$Row" "count" "I") (by decide +kernel)) (fun _ h9 => h9) rfl dX1_largestNext_12 ?_
    refine lv_iconst (v := 1) hx hb dX1_largestNext_15 (by decide) ?_
    refine lv_isub hx hb dX1_largestNext_16 ?_
    refine kx_ald hx hb hK hP (1) 0 rfl rfl (j := n - 1) (nI_p (by omega)) (by omega) dX1_largestNext_17 ?_
    refine va_get (D := D) (ci := 0) (v := .int (zs (n - 1))) (C := RX0) (T := TX0) (N := 6) hx hb hts (by decide +kernel) hown hK hP (2 + (n - 1)) (rowW_b (by omega)) rfl 1 (by decide) (hts (.fieldLink RX1 36 "VinegarLoft$Barrel" "size" "I") (by decide +kernel)) (fun _ h9 => h9) rfl dX1_largestNext_18 ?_
    refine lv_iconst (v := 1) hx hb dX1_largestNext_21 (by decide) ?_
    refine lv_isub hx hb dX1_largestNext_22 ?_
    refine lv_goto (tgt := 28) hx hb dX1_largestNext_23 (by decide) ?_
    exact W.iret hx hb hr (fun t ht hW => ⟨_, rfl, by unfold lgN; rw [if_neg h0], ht⟩) (fun q hq => absurd hq List.not_mem_nil) dX1_largestNext_28
set_option maxHeartbeats 4000000 in
set_option maxRecDepth 100000 in
theorem metX1_draughtNow (l : Launch) (D : va_G) (r la : Nat) (bs : Nat → Nat) (cA : ClassId) (n : Nat) (hn : n ≤ 8) (wm df : Int32) (q : UInt64) (wd zs : Nat → Int32) (h : Nat → UInt64) (hd : drok wm) : Met l yX1_draughtNow wsX1_draughtNow { frames := 0, cells := 0, slots := 0, locals := 0 } (Pr D [(cA, .object "VinegarLoft$Barrel")] [.ref r] (rowW r la bs cA (nI n) wm df q wd zs h)) (vp_Sd (fun r : UInt64 => r = drv wm)) 0 0 (fun _ => False) := by
  refine Met.ofW (cc := cX1_draughtNow) (maxL := 3) (ret := (some .double)) (by decide) rfl ?_
  intro p e s m args below meth c s₁ B hml hv
  obtain ⟨rfl, hP, hK⟩ := hv
  have hx := B.exec
  have hb := B.bytes
  have hr := B.returns
  have hts := atoms_spec (ws := wsX1_draughtNow) B.pre
  have hown : s.vm.findClass RX1 = some m.cls := findClass_of_methodNamed B.named
  have hlocks := B.notSynchronized
  have hl := lv_entry ([.ref r]) (n := 3) (Nat.le_of_ble_eq_true rfl)
  rw [lg_entry_eq]
  generalize (lg_sl ([.ref r]) ++ List.replicate (3 - (lg_sl ([.ref r])).length) Slot.unset).toArray = ls at hl ⊢
  have hl : lv_has ls 3 [(0, .ref r)] := hl
  obtain ⟨d1, d2, d3⟩ := hd
  refine kd_1 hx hb dX1_draughtNow_0 ?_
  refine lv_ldc2d hx hb hown (hts (.constantDouble RX1 96 4587366580439587226) (by decide +kernel)) dX1_draughtNow_1 ?_
  refine lv_aload_n hx hb dX1_draughtNow_4 rfl (lv_at hl 0 rfl) ?_
  refine va_get (D := D) (ci := 1) (v := .int wm) (C := RX1) (T := TX1) (N := 5) hx hb hts (by decide +kernel) hown hK hP (0) rfl rfl 2 (by decide) (hts (.fieldLink RX1 22 "VinegarLoft$Row" "warmth" "I") (by decide +kernel)) (fun _ h9 => h9) rfl dX1_draughtNow_5 ?_
  refine lv_bipush (v := 18) hx hb dX1_draughtNow_8 (by decide) ?_
  refine lv_isub hx hb dX1_draughtNow_10 ?_
  refine lv_i2d hx hb dX1_draughtNow_11 ?_
  refine lv_dmul hx hb dX1_draughtNow_12 d1 ?_
  refine lv_dadd hx hb dX1_draughtNow_13 d2 ?_
  refine lv_dstore_n (lv' := [(1, .double (drw wm)), (0, .ref r)]) hx hb dX1_draughtNow_14 rfl hl (by decide) rfl (fun ls hl => ?_)
  refine lv_dload_n hx hb dX1_draughtNow_15 rfl (lv_at hl 0 rfl) ?_
  refine lv_ldc2d hx hb hown (hts (.constantDouble RX1 98 4596373779694328218) (by decide +kernel)) dX1_draughtNow_16 ?_
  refine kd_ge (tgt := 29) hx hb dX1_draughtNow_19 dX1_draughtNow_20 (by decide) d3 (fun c19 => ?_) (fun c19 => ?_)
  · refine lv_dload_n hx hb dX1_draughtNow_29 rfl (lv_at hl 0 rfl) ?_
    exact W.dret hx hb hr (fun t ht hW => ⟨_, rfl, by unfold drv; rw [if_neg c19], ht⟩) (fun q hq => absurd hq List.not_mem_nil) dX1_draughtNow_30
  · refine lv_ldc2d hx hb hown (hts (.constantDouble RX1 98 4596373779694328218) (by decide +kernel)) dX1_draughtNow_23 ?_
    refine lv_goto (tgt := 30) hx hb dX1_draughtNow_26 (by decide) ?_
    exact W.dret hx hb hr (fun t ht hW => ⟨_, rfl, by unfold drv; rw [if_pos c19], ht⟩) (fun q hq => absurd hq List.not_mem_nil) dX1_draughtNow_30
theorem emp0 {x : UInt64} : emp x = 0 ↔ FP.dcmp x 0 = some .gt := by
  unfold emp
  constructor
  · intro h
    refine Classical.byContradiction fun h2 => ?_
    rw [if_neg h2] at h
    exact absurd h (by decide)
  · intro h; rw [if_pos h]
theorem nn_0 : NN 0 := by unfold NN; decide +kernel
theorem elG_nn {h : Nat → UInt64} {n : Nat} (hN : NNr n h) {k : Nat} (hk : k ≤ n) : NN (elG h (elO h k)) := by
  cases ho : elO h k with
  | none => exact nn_0
  | some b => exact (hN b (by have := elO_lt h k b ho; omega)).2
theorem elO_y {h : Nat → UInt64} {n : Nat} (hN : NNr n h) {i : Nat} (hi : i < n) (h1 : FP.dcmp (h i) 0 = some .gt) (h2 : FP.dcmp (h (8 + i)) (elG h (elO h i)) ≠ some .lt) : elO h (i + 1) = some i := by
  show (if elt h i (elO h i) = true then some i else elO h i) = some i
  refine if_pos ?_
  unfold elt
  rw [decide_eq_true h1, Bool.true_and]
  cases ho : elO h i with
  | none => rfl
  | some b => rw [ho] at h2; exact decide_eq_true h2
theorem elO_e {h : Nat → UInt64} {i : Nat} (h1 : FP.dcmp (h i) 0 ≠ some .gt) : elO h (i + 1) = elO h i := by
  show (if elt h i (elO h i) = true then some i else elO h i) = elO h i
  refine if_neg ?_
  unfold elt
  rw [decide_eq_false h1, Bool.false_and]
  exact fun h => nomatch h
theorem elO_n {h : Nat → UInt64} {n : Nat} (hN : NNr n h) {i : Nat} (hi : i < n) (h2 : FP.dcmp (h (8 + i)) (elG h (elO h i)) = some .lt) : elO h (i + 1) = elO h i := by
  show (if elt h i (elO h i) = true then some i else elO h i) = elO h i
  refine if_neg ?_
  unfold elt
  cases ho : elO h i with
  | none =>
    rw [ho] at h2
    have h3 := ((cmp_nn (hN i hi).2 (show NN (elG h none) from nn_0)).1).mp h2
    have h4 : (elG h none).toNat = 0 := by
      show (0 : UInt64).toNat = 0
      decide
    omega
  | some b =>
    rw [ho] at h2
    show ¬ (decide (FP.dcmp (h i) 0 = some .gt) && decide (FP.dcmp (h (8 + i)) (h (8 + b)) ≠ some .lt)) = true
    rw [show decide (FP.dcmp (h (8 + i)) (h (8 + b)) ≠ some .lt) = false from decide_eq_false (fun h5 => h5 h2), Bool.and_false]
    exact fun h => nomatch h
theorem nn_ne0 {x : UInt64} (h : NN x) : FP.dcmp x 0 ≠ none := cmp_ne h.ne ne_0
theorem nI_m1 {b : Nat} (hb : b < 8) : ¬ nI b = -1 := fun e => nomatch ((encO_m1 (o := some b) (fun x hx => by cases hx; exact hb)).mp e)
set_option maxHeartbeats 4000000 in
set_option maxRecDepth 100000 in
/-- eldest() -/
theorem metX1_eldest (l : Launch) (D : va_G) (r la : Nat) (bs : Nat → Nat) (cA : ClassId) (n : Nat) (hn : n ≤ 8) (wm df : Int32) (q : UInt64) (wd zs : Nat → Int32) (h : Nat → UInt64) (hN : NNr n h) : Met l yX1_eldest wsX1_eldest { frames := 1, cells := 0, slots := 0, locals := 20 } (Pr D [(cA, .object "VinegarLoft$Barrel")] [.ref r] (rowW r la bs cA (nI n) wm df q wd zs h)) (vp_Si (fun r : Int32 => r = encO (elO h n))) 0 0 (fun _ => False) := by
  refine Met.ofW (cc := cX1_eldest) (maxL := 5) (ret := (some .int)) (by decide) rfl ?_
  intro p e s m args below meth c s₁ B hml hv
  obtain ⟨rfl, hP, hK⟩ := hv
  have hx := B.exec
  have hb := B.bytes
  have hr := B.returns
  have hts := atoms_spec (ws := wsX1_eldest) B.pre
  have hown : s.vm.findClass RX1 = some m.cls := findClass_of_methodNamed B.named
  have hlocks := B.notSynchronized
  have hl := lv_entry ([.ref r]) (n := 5) (Nat.le_of_ble_eq_true rfl)
  rw [lg_entry_eq]
  generalize (lg_sl ([.ref r]) ++ List.replicate (5 - (lg_sl ([.ref r])).length) Slot.unset).toArray = ls at hl ⊢
  have hl : lv_has ls 5 [(0, .ref r)] := hl
  refine lv_iconst (v := (-1)) hx hb dX1_eldest_0 (by decide) ?_
  refine lv_istore_n (lv' := [(1, .int (-1)), (0, .ref r)]) hx hb dX1_eldest_1 rfl hl (by decide) rfl (fun ls hl => ?_)
  refine kd_0 hx hb dX1_eldest_2 ?_
  refine lv_dstore_n (lv' := [(2, .double 0), (1, .int (-1)), (0, .ref r)]) hx hb dX1_eldest_3 rfl hl (by decide) rfl (fun ls hl => ?_)
  refine lv_iconst (v := 0) hx hb dX1_eldest_4 (by decide) ?_
  refine lv_istore (lv' := [(4, .int 0), (2, .double 0), (1, .int (-1)), (0, .ref r)]) hx hb dX1_eldest_5 hl (by decide) rfl (fun ls hl => ?_)
  refine kW_upR (n) (fun i ls => lv_has ls 5 [(4, .int (nI i)), (2, .double (elG h (elO h i))), (1, .int (encO (elO h i))), (0, .ref r)]) (fun i ls hi hl ih => ?_) (fun ls hl => ?_) (lv_sub hl [0, 1, 2, 3] (rfl))
  · refine lv_iload hx hb dX1_eldest_7 (lv_at hl 0 rfl) ?_
    refine lv_aload_n hx hb dX1_eldest_9 rfl (lv_at hl 3 rfl) ?_
    refine va_get (D := D) (ci := 1) (v := .int (nI n)) (C := RX1) (T := TX1) (N := 5) hx hb hts (by decide +kernel) hown hK hP (0) rfl rfl 1 (by decide) (hts (.fieldLink RX1 18 "VinegarLoft$Row" "count" "I") (by decide +kernel)) (fun _ h9 => h9) rfl dX1_eldest_10 ?_
    refine lv_icmp_ge (tgt := 64) hx hb dX1_eldest_13 (by decide) (fun c13 => absurd c13 (nI_ge hi (by omega))) (fun c13 => ?_)
    refine lv_aload_n hx hb dX1_eldest_16 rfl (lv_at hl 3 rfl) ?_
    refine va_get (D := D) (ci := 1) (v := .ref la) (C := RX1) (T := TX1) (N := 5) hx hb hts (by decide +kernel) hown hK hP (0) rfl rfl 0 (by decide) (hts (.fieldLink RX1 11 "VinegarLoft$Row" "line" "[LVinegarLoft$Barrel;") (by decide +kernel)) (fun _ h9 => h9) rfl dX1_eldest_17 ?_
    refine lv_iload hx hb dX1_eldest_20 (lv_at hl 0 rfl) ?_
    refine kx_ald hx hb hK hP (1) 0 rfl rfl (j := i) rfl (by omega) dX1_eldest_22 ?_
    refine kr_i (W.runV (As := []) (rest := []) ⟨hx, hb, hml, hown, hts⟩ (metX0_isEmpty l D (bs i) (wd i) (zs i) (h i) (h (8 + i)) (h (16 + i)) (h (24 + i)) (nn_ne0 (hN i hi).1)) (cwV 0 hts gX1_eldest_X0_isEmpty rfl rfl rfl (by decide +kernel) ⟨Nat.le_of_ble_eq_true rfl, Nat.le_of_ble_eq_true rfl⟩) (prV 0 0 RX0 TX0 6 rfl rfl (vj_oP (rowW_b (show i < 8 by omega)) hP) (hK.sub [] rfl)) rfl rfl hl.1 rfl (lv_room (Nat.le_of_ble_eq_true rfl)) dX1_eldest_23 ⟨Nat.le_of_ble_eq_true rfl, Nat.le_of_ble_eq_true rfl⟩) ?_
    refine lv_if_ne (tgt := 58) hx hb dX1_eldest_26 (by decide) (fun c26 => ?_) (fun c26 => ?_)
    · refine lv_iinc (v := nI (i + 1)) (lv' := [(4, .int (nI (i + 1))), (2, .double (elG h (elO h i))), (1, .int (encO (elO h i))), (0, .ref r)]) hx hb dX1_eldest_58 hl (k := 0) rfl (nI_1 i) (by decide) rfl (fun ls hl => ?_)
      refine lv_goto (tgt := 7) hx hb dX1_eldest_61 (by decide) ?_
      have e1 : elO h (i + 1) = elO h i := elO_e (fun h9 => c26 (emp0.mpr h9))
      exact ih ls (lv_sub hl [0, 1, 2, 3] (by rw [e1]; rfl))
    · refine lv_aload_n hx hb dX1_eldest_29 rfl (lv_at hl 3 rfl) ?_
      refine va_get (D := D) (ci := 1) (v := .ref la) (C := RX1) (T := TX1) (N := 5) hx hb hts (by decide +kernel) hown hK hP (0) rfl rfl 0 (by decide) (hts (.fieldLink RX1 11 "VinegarLoft$Row" "line" "[LVinegarLoft$Barrel;") (by decide +kernel)) (fun _ h9 => h9) rfl dX1_eldest_30 ?_
      refine lv_iload hx hb dX1_eldest_33 (lv_at hl 0 rfl) ?_
      refine kx_ald hx hb hK hP (1) 0 rfl rfl (j := i) rfl (by omega) dX1_eldest_35 ?_
      refine va_get (D := D) (ci := 0) (v := .double (h (8 + i))) (C := RX0) (T := TX0) (N := 6) hx hb hts (by decide +kernel) hown hK hP (2 + i) (rowW_b (show i < 8 by omega)) rfl 3 (by decide) (hts (.fieldLink RX1 66 "VinegarLoft$Barrel" "age" "D") (by decide +kernel)) (fun _ h9 => h9) rfl dX1_eldest_36 ?_
      refine lv_dload_n hx hb dX1_eldest_39 rfl (lv_at hl 1 rfl) ?_
      refine kd_lt (tgt := 58) hx hb dX1_eldest_40 dX1_eldest_41 (by decide) (cmp_ne (hN i hi).2.ne (elG_nn hN (by omega)).ne) (fun c40 => ?_) (fun c40 => ?_)
      · refine lv_iinc (v := nI (i + 1)) (lv' := [(4, .int (nI (i + 1))), (2, .double (elG h (elO h i))), (1, .int (encO (elO h i))), (0, .ref r)]) hx hb dX1_eldest_58 hl (k := 0) rfl (nI_1 i) (by decide) rfl (fun ls hl => ?_)
        refine lv_goto (tgt := 7) hx hb dX1_eldest_61 (by decide) ?_
        have e1 : elO h (i + 1) = elO h i := elO_n hN hi c40
        exact ih ls (lv_sub hl [0, 1, 2, 3] (by rw [e1]; rfl))
      · refine lv_iload hx hb dX1_eldest_44 (lv_at hl 0 rfl) ?_
        refine lv_istore_n (lv' := [(1, .int (nI i)), (4, .int (nI i)), (2, .double (elG h (elO h i))), (0, .ref r)]) hx hb dX1_eldest_46 rfl hl (by decide) rfl (fun ls hl => ?_)
        refine lv_aload_n hx hb dX1_eldest_47 rfl (lv_at hl 3 rfl) ?_
        refine va_get (D := D) (ci := 1) (v := .ref la) (C := RX1) (T := TX1) (N := 5) hx hb hts (by decide +kernel) hown hK hP (0) rfl rfl 0 (by decide) (hts (.fieldLink RX1 11 "VinegarLoft$Row" "line" "[LVinegarLoft$Barrel;") (by decide +kernel)) (fun _ h9 => h9) rfl dX1_eldest_48 ?_
        refine lv_iload hx hb dX1_eldest_51 (lv_at hl 1 rfl) ?_
        refine kx_ald hx hb hK hP (1) 0 rfl rfl (j := i) rfl (by omega) dX1_eldest_53 ?_
        refine va_get (D := D) (ci := 0) (v := .double (h (8 + i))) (C := RX0) (T := TX0) (N := 6) hx hb hts (by decide +kernel) hown hK hP (2 + i) (rowW_b (show i < 8 by omega)) rfl 3 (by decide) (hts (.fieldLink RX1 66 "VinegarLoft$Barrel" "age" "D") (by decide +kernel)) (fun _ h9 => h9) rfl dX1_eldest_54 ?_
        refine lv_dstore_n (lv' := [(2, .double (h (8 + i))), (1, .int (nI i)), (4, .int (nI i)), (0, .ref r)]) hx hb dX1_eldest_57 rfl hl (by decide) rfl (fun ls hl => ?_)
        refine lv_iinc (v := nI (i + 1)) (lv' := [(4, .int (nI (i + 1))), (2, .double (h (8 + i))), (1, .int (nI i)), (0, .ref r)]) hx hb dX1_eldest_58 hl (k := 2) rfl (nI_1 i) (by decide) rfl (fun ls hl => ?_)
        refine lv_goto (tgt := 7) hx hb dX1_eldest_61 (by decide) ?_
        have e1 : elO h (i + 1) = some i := elO_y hN hi (emp0.mp c26) c40
        exact ih ls (lv_sub hl [0, 1, 2, 3] (by rw [e1]; rfl))
  · refine lv_iload hx hb dX1_eldest_7 (lv_at hl 0 rfl) ?_
    refine lv_aload_n hx hb dX1_eldest_9 rfl (lv_at hl 3 rfl) ?_
    refine va_get (D := D) (ci := 1) (v := .int (nI n)) (C := RX1) (T := TX1) (N := 5) hx hb hts (by decide +kernel) hown hK hP (0) rfl rfl 1 (by decide) (hts (.fieldLink RX1 18 "VinegarLoft$Row" "count" "I") (by decide +kernel)) (fun _ h9 => h9) rfl dX1_eldest_10 ?_
    refine lv_icmp_ge (tgt := 64) hx hb dX1_eldest_13 (by decide) (fun c13 => ?_) (fun c13 => absurd (nI_le (Nat.le_refl n) (by omega)) c13)
    refine lv_iload_n hx hb dX1_eldest_64 rfl (lv_at hl 2 rfl) ?_
    exact W.iret hx hb hr (fun t ht hW => ⟨_, rfl, rfl, ht⟩) (fun q hq => absurd hq List.not_mem_nil) dX1_eldest_65
set_option maxHeartbeats 4000000 in
set_option maxRecDepth 100000 in
/-- greatestAge() -/
theorem metX1_greatestAge (l : Launch) (D : va_G) (r la : Nat) (bs : Nat → Nat) (cA : ClassId) (n : Nat) (hn : n ≤ 8) (wm df : Int32) (q : UInt64) (wd zs : Nat → Int32) (h : Nat → UInt64) (hN : NNr n h) : Met l yX1_greatestAge wsX1_greatestAge { frames := 2, cells := 0, slots := 0, locals := 44 } (Pr D [(cA, .object "VinegarLoft$Barrel")] [.ref r] (rowW r la bs cA (nI n) wm df q wd zs h)) (vp_Sd (fun r : UInt64 => r = elG h (elO h n))) 0 0 (fun _ => False) := by
  refine Met.ofW (cc := cX1_greatestAge) (maxL := 2) (ret := (some .double)) (by decide) rfl ?_
  intro p e s m args below meth c s₁ B hml hv
  obtain ⟨rfl, hP, hK⟩ := hv
  have hx := B.exec
  have hb := B.bytes
  have hr := B.returns
  have hts := atoms_spec (ws := wsX1_greatestAge) B.pre
  have hown : s.vm.findClass RX1 = some m.cls := findClass_of_methodNamed B.named
  have hlocks := B.notSynchronized
  have hl := lv_entry ([.ref r]) (n := 2) (Nat.le_of_ble_eq_true rfl)
  rw [lg_entry_eq]
  generalize (lg_sl ([.ref r]) ++ List.replicate (2 - (lg_sl ([.ref r])).length) Slot.unset).toArray = ls at hl ⊢
  have hl : lv_has ls 2 [(0, .ref r)] := hl
  refine lv_aload_n hx hb dX1_greatestAge_0 rfl (lv_at hl 0 rfl) ?_
  refine kr_i (W.runV (As := []) (rest := []) ⟨hx, hb, hml, hown, hts⟩ (metX1_eldest l D r la bs cA n hn wm df q wd zs h hN) (cwV 0 hts gX1_greatestAge_X1_eldest rfl rfl rfl (by decide +kernel) ⟨Nat.le_of_ble_eq_true rfl, Nat.le_of_ble_eq_true rfl⟩) (prV 1 0 RX1 TX1 5 rfl rfl hP hK) rfl rfl hl.1 rfl (lv_room (Nat.le_of_ble_eq_true rfl)) dX1_greatestAge_1 ⟨Nat.le_of_ble_eq_true rfl, Nat.le_of_ble_eq_true rfl⟩) ?_
  rcases ho : elO h n with _ | b
  · refine lv_istore_n (lv' := [(1, .int (-1)), (0, .ref r)]) hx hb dX1_greatestAge_4 rfl hl (by decide) rfl (fun ls hl => ?_)
    refine lv_iload_n hx hb dX1_greatestAge_5 rfl (lv_at hl 0 rfl) ?_
    refine lv_iconst (v := (-1)) hx hb dX1_greatestAge_6 (by decide) ?_
    refine lv_icmp_ne (tgt := 14) hx hb dX1_greatestAge_7 (by decide) (fun c7 => absurd c7 (fun h9 => h9 rfl)) (fun c7 => ?_)
    refine kd_0 hx hb dX1_greatestAge_10 ?_
    refine lv_goto (tgt := 23) hx hb dX1_greatestAge_11 (by decide) ?_
    exact W.dret hx hb hr (fun t ht hW => ⟨_, rfl, rfl, ht⟩) (fun q hq => absurd hq List.not_mem_nil) dX1_greatestAge_23
  · have hbn : b < n := elO_lt h n b ho
    refine lv_istore_n (lv' := [(1, .int (nI b)), (0, .ref r)]) hx hb dX1_greatestAge_4 rfl hl (by decide) rfl (fun ls hl => ?_)
    refine lv_iload_n hx hb dX1_greatestAge_5 rfl (lv_at hl 0 rfl) ?_
    refine lv_iconst (v := (-1)) hx hb dX1_greatestAge_6 (by decide) ?_
    refine lv_icmp_ne (tgt := 14) hx hb dX1_greatestAge_7 (by decide) (fun c7 => ?_) (fun c7 => absurd c7 (nI_m1 (by omega)))
    refine lv_aload_n hx hb dX1_greatestAge_14 rfl (lv_at hl 1 rfl) ?_
    refine va_get (D := D) (ci := 1) (v := .ref la) (C := RX1) (T := TX1) (N := 5) hx hb hts (by decide +kernel) hown hK hP (0) rfl rfl 0 (by decide) (hts (.fieldLink RX1 11 "VinegarLoft$Row" "line" "[LVinegarLoft$Barrel;") (by decide +kernel)) (fun _ h9 => h9) rfl dX1_greatestAge_15 ?_
    refine lv_iload_n hx hb dX1_greatestAge_18 rfl (lv_at hl 0 rfl) ?_
    refine kx_ald hx hb hK hP (1) 0 rfl rfl (j := b) rfl (by omega) dX1_greatestAge_19 ?_
    refine va_get (D := D) (ci := 0) (v := .double (h (8 + b))) (C := RX0) (T := TX0) (N := 6) hx hb hts (by decide +kernel) hown hK hP (2 + b) (rowW_b (show b < 8 by omega)) rfl 3 (by decide) (hts (.fieldLink RX1 66 "VinegarLoft$Barrel" "age" "D") (by decide +kernel)) (fun _ h9 => h9) rfl dX1_greatestAge_20 ?_
    exact W.dret hx hb hr (fun t ht hW => ⟨_, rfl, rfl, ht⟩) (fun q hq => absurd hq List.not_mem_nil) dX1_greatestAge_23
theorem rdv_none {h : Nat → UInt64} {n : Nat} {df : Int32} {q : UInt64} (ho : elO h n = none) : rdv h n df q = 0 := by unfold rdv; rw [ho]
theorem rdv_some {h : Nat → UInt64} {n : Nat} {df : Int32} {q : UInt64} {b : Nat} (ho : elO h n = some b) : rdv h n df q = if nI b = df then (if FP.dcmp (h (8 + b)) 4622945017495814144 = some .lt ∨ FP.dcmp (h (24 + b)) 4627730092099895296 = some .lt then 0 else if FP.dcmp (leB h q b) 0 = some .gt then FP.d2i (FP.ddiv (leB h q b) 4591870180066957722) else 0) else 0 := by unfold rdv; rw [ho]
set_option maxHeartbeats 4000000 in
set_option maxRecDepth 100000 in
/-- bottlesReady() -/
theorem metX1_bottlesReady (l : Launch) (D : va_G) (r la : Nat) (bs : Nat → Nat) (cA : ClassId) (n : Nat) (hn : n ≤ 8) (wm df : Int32) (q : UInt64) (wd zs : Nat → Int32) (h : Nat → UInt64) (hN : NNr n h) (hr9 : rdok h n q) : Met l yX1_bottlesReady wsX1_bottlesReady { frames := 2, cells := 0, slots := 0, locals := 44 } (Pr D [(cA, .object "VinegarLoft$Barrel")] [.ref r] (rowW r la bs cA (nI n) wm df q wd zs h)) (vp_Si (fun r : Int32 => r = rdv h n df q)) 0 0 (fun _ => False) := by
  refine Met.ofW (cc := cX1_bottlesReady) (maxL := 5) (ret := (some .int)) (by decide) rfl ?_
  intro p e s m args below meth c s₁ B hml hv
  obtain ⟨rfl, hP, hK⟩ := hv
  have hx := B.exec
  have hb := B.bytes
  have hr := B.returns
  have hts := atoms_spec (ws := wsX1_bottlesReady) B.pre
  have hown : s.vm.findClass RX1 = some m.cls := findClass_of_methodNamed B.named
  have hlocks := B.notSynchronized
  have hl := lv_entry ([.ref r]) (n := 5) (Nat.le_of_ble_eq_true rfl)
  rw [lg_entry_eq]
  generalize (lg_sl ([.ref r]) ++ List.replicate (5 - (lg_sl ([.ref r])).length) Slot.unset).toArray = ls at hl ⊢
  have hl : lv_has ls 5 [(0, .ref r)] := hl
  refine lv_aload_n hx hb dX1_bottlesReady_0 rfl (lv_at hl 0 rfl) ?_
  refine kr_i (W.runV (As := []) (rest := []) ⟨hx, hb, hml, hown, hts⟩ (metX1_eldest l D r la bs cA n hn wm df q wd zs h hN) (cwV 0 hts gX1_bottlesReady_X1_eldest rfl rfl rfl (by decide +kernel) ⟨Nat.le_of_ble_eq_true rfl, Nat.le_of_ble_eq_true rfl⟩) (prV 1 0 RX1 TX1 5 rfl rfl hP hK) rfl rfl hl.1 rfl (lv_room (Nat.le_of_ble_eq_true rfl)) dX1_bottlesReady_1 ⟨Nat.le_of_ble_eq_true rfl, Nat.le_of_ble_eq_true rfl⟩) ?_
  rcases ho : elO h n with _ | b
  · refine lv_istore_n (lv' := [(1, .int (-1)), (0, .ref r)]) hx hb dX1_bottlesReady_4 rfl hl (by decide) rfl (fun ls hl => ?_)
    refine lv_iload_n hx hb dX1_bottlesReady_5 rfl (lv_at hl 0 rfl) ?_
    refine lv_iconst (v := (-1)) hx hb dX1_bottlesReady_6 (by decide) ?_
    refine lv_icmp_eq (tgt := 18) hx hb dX1_bottlesReady_7 (by decide) (fun c7 => ?_) (fun c7 => absurd rfl c7)
    refine lv_iconst (v := 0) hx hb dX1_bottlesReady_18 (by decide) ?_
    exact W.iret hx hb hr (fun t ht hW => ⟨_, rfl, (rdv_none ho).symm, ht⟩) (fun q hq => absurd hq List.not_mem_nil) dX1_bottlesReady_19
  · have hbn : b < n := elO_lt h n b ho
    refine lv_istore_n (lv' := [(1, .int (nI b)), (0, .ref r)]) hx hb dX1_bottlesReady_4 rfl hl (by decide) rfl (fun ls hl => ?_)
    refine lv_iload_n hx hb dX1_bottlesReady_5 rfl (lv_at hl 0 rfl) ?_
    refine lv_iconst (v := (-1)) hx hb dX1_bottlesReady_6 (by decide) ?_
    refine lv_icmp_eq (tgt := 18) hx hb dX1_bottlesReady_7 (by decide) (fun c7 => absurd c7 (nI_m1 (by omega))) (fun c7 => ?_)
    refine lv_iload_n hx hb dX1_bottlesReady_10 rfl (lv_at hl 0 rfl) ?_
    refine lv_aload_n hx hb dX1_bottlesReady_11 rfl (lv_at hl 1 rfl) ?_
    refine va_get (D := D) (ci := 1) (v := .int df) (C := RX1) (T := TX1) (N := 5) hx hb hts (by decide +kernel) hown hK hP (0) rfl rfl 3 (by decide) (hts (.fieldLink RX1 25 "VinegarLoft$Row" "drawnFrom" "I") (by decide +kernel)) (fun _ h9 => h9) rfl dX1_bottlesReady_12 ?_
    refine lv_icmp_eq (tgt := 20) hx hb dX1_bottlesReady_15 (by decide) (fun c15 => ?_) (fun c15 => ?_)
    · obtain ⟨r1, r2, r3, r4, r5⟩ := hr9 b hbn
      refine lv_aload_n hx hb dX1_bottlesReady_20 rfl (lv_at hl 1 rfl) ?_
      refine va_get (D := D) (ci := 1) (v := .ref la) (C := RX1) (T := TX1) (N := 5) hx hb hts (by decide +kernel) hown hK hP (0) rfl rfl 0 (by decide) (hts (.fieldLink RX1 11 "VinegarLoft$Row" "line" "[LVinegarLoft$Barrel;") (by decide +kernel)) (fun _ h9 => h9) rfl dX1_bottlesReady_21 ?_
      refine lv_iload_n hx hb dX1_bottlesReady_24 rfl (lv_at hl 0 rfl) ?_
      refine kx_ald hx hb hK hP (1) 0 rfl rfl (j := b) rfl (by omega) dX1_bottlesReady_25 ?_
      refine lv_astore_n (lv' := [(2, .ref (bs b)), (1, .int (nI b)), (0, .ref r)]) hx hb dX1_bottlesReady_26 rfl hl (by decide) rfl (fun ls hl => ?_)
      refine lv_aload_n hx hb dX1_bottlesReady_27 rfl (lv_at hl 0 rfl) ?_
      refine va_get (D := D) (ci := 0) (v := .double (h (8 + b))) (C := RX0) (T := TX0) (N := 6) hx hb hts (by decide +kernel) hown hK hP (2 + b) (rowW_b (show b < 8 by omega)) rfl 3 (by decide) (hts (.fieldLink RX1 66 "VinegarLoft$Barrel" "age" "D") (by decide +kernel)) (fun _ h9 => h9) rfl dX1_bottlesReady_28 ?_
      refine lv_ldc2d hx hb hown (hts (.constantDouble RX1 100 4622945017495814144) (by decide +kernel)) dX1_bottlesReady_31 ?_
      refine kd_lt (tgt := 49) hx hb dX1_bottlesReady_34 dX1_bottlesReady_35 (by decide) r1 (fun c34 => ?_) (fun c34 => ?_)
      · refine lv_iconst (v := 0) hx hb dX1_bottlesReady_49 (by decide) ?_
        exact W.iret hx hb hr (fun t ht hW => ⟨_, rfl, by rw [rdv_some ho, if_pos c15, if_pos (Or.inl c34)], ht⟩) (fun q hq => absurd hq List.not_mem_nil) dX1_bottlesReady_50
      · refine lv_aload_n hx hb dX1_bottlesReady_38 rfl (lv_at hl 0 rfl) ?_
        refine va_get (D := D) (ci := 0) (v := .double (h (24 + b))) (C := RX0) (T := TX0) (N := 6) hx hb hts (by decide +kernel) hown hK hP (2 + b) (rowW_b (show b < 8 by omega)) rfl 5 (by decide) (hts (.fieldLink RX1 72 "VinegarLoft$Barrel" "sugar" "D") (by decide +kernel)) (fun _ h9 => h9) rfl dX1_bottlesReady_39 ?_
        refine lv_ldc2d hx hb hown (hts (.constantDouble RX1 102 4627730092099895296) (by decide +kernel)) dX1_bottlesReady_42 ?_
        refine kd_ge (tgt := 51) hx hb dX1_bottlesReady_45 dX1_bottlesReady_46 (by decide) r2 (fun c45 => ?_) (fun c45 => ?_)
        · refine lv_aload_n hx hb dX1_bottlesReady_51 rfl (lv_at hl 2 rfl) ?_
          refine va_get (D := D) (ci := 1) (v := .double q) (C := RX1) (T := TX1) (N := 5) hx hb hts (by decide +kernel) hown hK hP (0) rfl rfl 4 (by decide) (hts (.fieldLink RX1 28 "VinegarLoft$Row" "mayBeDrawn" "D") (by decide +kernel)) (fun _ h9 => h9) rfl dX1_bottlesReady_52 ?_
          refine lv_aload_n hx hb dX1_bottlesReady_55 rfl (lv_at hl 0 rfl) ?_
          refine va_get (D := D) (ci := 0) (v := .double (h b)) (C := RX0) (T := TX0) (N := 6) hx hb hts (by decide +kernel) hown hK hP (2 + b) (rowW_b (show b < 8 by omega)) rfl 2 (by decide) (hts (.fieldLink RX1 49 "VinegarLoft$Barrel" "litres" "D") (by decide +kernel)) (fun _ h9 => h9) rfl dX1_bottlesReady_56 ?_
          refine kd_ge (tgt := 70) hx hb dX1_bottlesReady_59 dX1_bottlesReady_60 (by decide) r3 (fun c59 => ?_) (fun c59 => ?_)
          · refine lv_aload_n hx hb dX1_bottlesReady_70 rfl (lv_at hl 0 rfl) ?_
            refine va_get (D := D) (ci := 0) (v := .double (h b)) (C := RX0) (T := TX0) (N := 6) hx hb hts (by decide +kernel) hown hK hP (2 + b) (rowW_b (show b < 8 by omega)) rfl 2 (by decide) (hts (.fieldLink RX1 49 "VinegarLoft$Barrel" "litres" "D") (by decide +kernel)) (fun _ h9 => h9) rfl dX1_bottlesReady_71 ?_
            refine kd_eq (show (h b) = leB h q b from by unfold leB lesv; rw [if_neg c59]) ?_
            refine lv_dstore_n (lv' := [(3, .double (leB h q b)), (2, .ref (bs b)), (1, .int (nI b)), (0, .ref r)]) hx hb dX1_bottlesReady_74 rfl hl (by decide) rfl (fun ls hl => ?_)
            refine lv_dload_n hx hb dX1_bottlesReady_75 rfl (lv_at hl 0 rfl) ?_
            refine kd_0 hx hb dX1_bottlesReady_76 ?_
            refine kd_le (tgt := 90) hx hb dX1_bottlesReady_77 dX1_bottlesReady_78 (by decide) r4 (fun c77 => ?_) (fun c77 => ?_)
            · refine lv_iconst (v := 0) hx hb dX1_bottlesReady_90 (by decide) ?_
              exact W.iret hx hb hr (fun t ht hW => ⟨_, rfl, by rw [rdv_some ho, if_pos c15, if_neg (fun h9 => h9.elim c34 c45), if_neg c77], ht⟩) (fun q hq => absurd hq List.not_mem_nil) dX1_bottlesReady_91
            · refine lv_dload_n hx hb dX1_bottlesReady_81 rfl (lv_at hl 0 rfl) ?_
              refine lv_ldc2d hx hb hown (hts (.constantDouble RX1 104 4591870180066957722) (by decide +kernel)) dX1_bottlesReady_82 ?_
              refine lv_ddiv hx hb dX1_bottlesReady_85 (r5 c77) ?_
              refine lv_d2i hx hb dX1_bottlesReady_86 ?_
              refine lv_goto (tgt := 91) hx hb dX1_bottlesReady_87 (by decide) ?_
              exact W.iret hx hb hr (fun t ht hW => ⟨_, rfl, by rw [rdv_some ho, if_pos c15, if_neg (fun h9 => h9.elim c34 c45), if_pos c77], ht⟩) (fun q hq => absurd hq List.not_mem_nil) dX1_bottlesReady_91
          · refine lv_aload_n hx hb dX1_bottlesReady_63 rfl (lv_at hl 2 rfl) ?_
            refine va_get (D := D) (ci := 1) (v := .double q) (C := RX1) (T := TX1) (N := 5) hx hb hts (by decide +kernel) hown hK hP (0) rfl rfl 4 (by decide) (hts (.fieldLink RX1 28 "VinegarLoft$Row" "mayBeDrawn" "D") (by decide +kernel)) (fun _ h9 => h9) rfl dX1_bottlesReady_64 ?_
            refine lv_goto (tgt := 74) hx hb dX1_bottlesReady_67 (by decide) ?_
            refine kd_eq (show q = leB h q b from by unfold leB lesv; rw [if_pos c59]) ?_
            refine lv_dstore_n (lv' := [(3, .double (leB h q b)), (2, .ref (bs b)), (1, .int (nI b)), (0, .ref r)]) hx hb dX1_bottlesReady_74 rfl hl (by decide) rfl (fun ls hl => ?_)
            refine lv_dload_n hx hb dX1_bottlesReady_75 rfl (lv_at hl 0 rfl) ?_
            refine kd_0 hx hb dX1_bottlesReady_76 ?_
            refine kd_le (tgt := 90) hx hb dX1_bottlesReady_77 dX1_bottlesReady_78 (by decide) r4 (fun c77 => ?_) (fun c77 => ?_)
            · refine lv_iconst (v := 0) hx hb dX1_bottlesReady_90 (by decide) ?_
              exact W.iret hx hb hr (fun t ht hW => ⟨_, rfl, by rw [rdv_some ho, if_pos c15, if_neg (fun h9 => h9.elim c34 c45), if_neg c77], ht⟩) (fun q hq => absurd hq List.not_mem_nil) dX1_bottlesReady_91
            · refine lv_dload_n hx hb dX1_bottlesReady_81 rfl (lv_at hl 0 rfl) ?_
              refine lv_ldc2d hx hb hown (hts (.constantDouble RX1 104 4591870180066957722) (by decide +kernel)) dX1_bottlesReady_82 ?_
              refine lv_ddiv hx hb dX1_bottlesReady_85 (r5 c77) ?_
              refine lv_d2i hx hb dX1_bottlesReady_86 ?_
              refine lv_goto (tgt := 91) hx hb dX1_bottlesReady_87 (by decide) ?_
              exact W.iret hx hb hr (fun t ht hW => ⟨_, rfl, by rw [rdv_some ho, if_pos c15, if_neg (fun h9 => h9.elim c34 c45), if_pos c77], ht⟩) (fun q hq => absurd hq List.not_mem_nil) dX1_bottlesReady_91
        · refine lv_iconst (v := 0) hx hb dX1_bottlesReady_49 (by decide) ?_
          exact W.iret hx hb hr (fun t ht hW => ⟨_, rfl, by rw [rdv_some ho, if_pos c15, if_pos (Or.inr c45)], ht⟩) (fun q hq => absurd hq List.not_mem_nil) dX1_bottlesReady_50
    · refine lv_iconst (v := 0) hx hb dX1_bottlesReady_18 (by decide) ?_
      exact W.iret hx hb hr (fun t ht hW => ⟨_, rfl, by rw [rdv_some ho, if_neg c15], ht⟩) (fun q hq => absurd hq List.not_mem_nil) dX1_bottlesReady_19
set_option maxHeartbeats 4000000 in
set_option maxRecDepth 100000 in
/-- allLitres -/
theorem metX1_allLitres (l : Launch) (D : va_G) (r la : Nat) (bs : Nat → Nat) (cA : ClassId) (n : Nat) (hn : n ≤ 8) (wm df : Int32) (q : UInt64) (wd zs : Nat → Int32) (h : Nat → UInt64) (ho : suLok h n) : Met l yX1_allLitres wsX1_allLitres { frames := 0, cells := 0, slots := 0, locals := 0 } (Pr D [(cA, .object "VinegarLoft$Barrel")] [.ref r] (rowW r la bs cA (nI n) wm df q wd zs h)) (vp_Sd (fun r : UInt64 => r = suL h n)) 0 0 (fun _ => False) := by
  refine Met.ofW (cc := cX1_allLitres) (maxL := 4) (ret := (some .double)) (by decide) rfl ?_
  intro p e s m args below meth c s₁ B hml hv
  obtain ⟨rfl, hP, hK⟩ := hv
  have hx := B.exec
  have hb := B.bytes
  have hr := B.returns
  have hts := atoms_spec (ws := wsX1_allLitres) B.pre
  have hown : s.vm.findClass RX1 = some m.cls := findClass_of_methodNamed B.named
  have hlocks := B.notSynchronized
  have hl := lv_entry ([.ref r]) (n := 4) (Nat.le_of_ble_eq_true rfl)
  rw [lg_entry_eq]
  generalize (lg_sl ([.ref r]) ++ List.replicate (4 - (lg_sl ([.ref r])).length) Slot.unset).toArray = ls at hl ⊢
  have hl : lv_has ls 4 [(0, .ref r)] := hl
  refine kd_0 hx hb dX1_allLitres_0 ?_
  refine lv_dstore_n (lv' := [(1, .double 0), (0, .ref r)]) hx hb dX1_allLitres_1 rfl hl (by decide) rfl (fun ls hl => ?_)
  refine lv_iconst (v := 0) hx hb dX1_allLitres_2 (by decide) ?_
  refine lv_istore_n (lv' := [(3, .int 0), (1, .double 0), (0, .ref r)]) hx hb dX1_allLitres_3 rfl hl (by decide) rfl (fun ls hl => ?_)
  refine kW_upR (n) (fun i ls => lv_has ls 4 [(3, .int (nI i)), (1, .double (suL h i)), (0, .ref r)]) (fun i ls hi hl ih => ?_) (fun ls hl => ?_) (lv_sub hl [0, 1, 2] (rfl))
  · refine lv_iload_n hx hb dX1_allLitres_4 rfl (lv_at hl 0 rfl) ?_
    refine lv_aload_n hx hb dX1_allLitres_5 rfl (lv_at hl 2 rfl) ?_
    refine va_get (D := D) (ci := 1) (v := .int (nI n)) (C := RX1) (T := TX1) (N := 5) hx hb hts (by decide +kernel) hown hK hP (0) rfl rfl 1 (by decide) (hts (.fieldLink RX1 18 "VinegarLoft$Row" "count" "I") (by decide +kernel)) (fun _ h9 => h9) rfl dX1_allLitres_6 ?_
    refine lv_icmp_ge (tgt := 30) hx hb dX1_allLitres_9 (by decide) (fun c9 => absurd c9 (nI_ge hi (by omega))) (fun c9 => ?_)
    refine lv_dload_n hx hb dX1_allLitres_12 rfl (lv_at hl 1 rfl) ?_
    refine lv_aload_n hx hb dX1_allLitres_13 rfl (lv_at hl 2 rfl) ?_
    refine va_get (D := D) (ci := 1) (v := .ref la) (C := RX1) (T := TX1) (N := 5) hx hb hts (by decide +kernel) hown hK hP (0) rfl rfl 0 (by decide) (hts (.fieldLink RX1 11 "VinegarLoft$Row" "line" "[LVinegarLoft$Barrel;") (by decide +kernel)) (fun _ h9 => h9) rfl dX1_allLitres_14 ?_
    refine lv_iload_n hx hb dX1_allLitres_17 rfl (lv_at hl 0 rfl) ?_
    refine kx_ald hx hb hK hP (1) 0 rfl rfl (j := i) rfl (by omega) dX1_allLitres_18 ?_
    refine va_get (D := D) (ci := 0) (v := .double (h i)) (C := RX0) (T := TX0) (N := 6) hx hb hts (by decide +kernel) hown hK hP (2 + i) (rowW_b (show i < 8 by omega)) rfl 2 (by decide) (hts (.fieldLink RX1 49 "VinegarLoft$Barrel" "litres" "D") (by decide +kernel)) (fun _ h9 => h9) rfl dX1_allLitres_19 ?_
    refine lv_dadd hx hb dX1_allLitres_22 (ho i hi) ?_
    refine lv_dstore_n (lv' := [(1, .double (FP.dadd (suL h i) (h i))), (3, .int (nI i)), (0, .ref r)]) hx hb dX1_allLitres_23 rfl hl (by decide) rfl (fun ls hl => ?_)
    refine lv_iinc (v := nI (i + 1)) (lv' := [(3, .int (nI (i + 1))), (1, .double (FP.dadd (suL h i) (h i))), (0, .ref r)]) hx hb dX1_allLitres_24 hl (k := 1) rfl (nI_1 i) (by decide) rfl (fun ls hl => ?_)
    refine lv_goto (tgt := 4) hx hb dX1_allLitres_27 (by decide) ?_
    exact ih ls (lv_sub hl [0, 1, 2] (rfl))
  · refine lv_iload_n hx hb dX1_allLitres_4 rfl (lv_at hl 0 rfl) ?_
    refine lv_aload_n hx hb dX1_allLitres_5 rfl (lv_at hl 2 rfl) ?_
    refine va_get (D := D) (ci := 1) (v := .int (nI n)) (C := RX1) (T := TX1) (N := 5) hx hb hts (by decide +kernel) hown hK hP (0) rfl rfl 1 (by decide) (hts (.fieldLink RX1 18 "VinegarLoft$Row" "count" "I") (by decide +kernel)) (fun _ h9 => h9) rfl dX1_allLitres_6 ?_
    refine lv_icmp_ge (tgt := 30) hx hb dX1_allLitres_9 (by decide) (fun c9 => ?_) (fun c9 => absurd (nI_le (Nat.le_refl n) (by omega)) c9)
    refine lv_dload_n hx hb dX1_allLitres_30 rfl (lv_at hl 1 rfl) ?_
    exact W.dret hx hb hr (fun t ht hW => ⟨_, rfl, rfl, ht⟩) (fun q hq => absurd hq List.not_mem_nil) dX1_allLitres_31
set_option maxHeartbeats 4000000 in
set_option maxRecDepth 100000 in
/-- litresTimesAge -/
theorem metX1_litresTimesAge (l : Launch) (D : va_G) (r la : Nat) (bs : Nat → Nat) (cA : ClassId) (n : Nat) (hn : n ≤ 8) (wm df : Int32) (q : UInt64) (wd zs : Nat → Int32) (h : Nat → UInt64) (ho : suPok 8 h n) : Met l yX1_litresTimesAge wsX1_litresTimesAge { frames := 0, cells := 0, slots := 0, locals := 0 } (Pr D [(cA, .object "VinegarLoft$Barrel")] [.ref r] (rowW r la bs cA (nI n) wm df q wd zs h)) (vp_Sd (fun r : UInt64 => r = suP 8 h n)) 0 0 (fun _ => False) := by
  refine Met.ofW (cc := cX1_litresTimesAge) (maxL := 4) (ret := (some .double)) (by decide) rfl ?_
  intro p e s m args below meth c s₁ B hml hv
  obtain ⟨rfl, hP, hK⟩ := hv
  have hx := B.exec
  have hb := B.bytes
  have hr := B.returns
  have hts := atoms_spec (ws := wsX1_litresTimesAge) B.pre
  have hown : s.vm.findClass RX1 = some m.cls := findClass_of_methodNamed B.named
  have hlocks := B.notSynchronized
  have hl := lv_entry ([.ref r]) (n := 4) (Nat.le_of_ble_eq_true rfl)
  rw [lg_entry_eq]
  generalize (lg_sl ([.ref r]) ++ List.replicate (4 - (lg_sl ([.ref r])).length) Slot.unset).toArray = ls at hl ⊢
  have hl : lv_has ls 4 [(0, .ref r)] := hl
  refine kd_0 hx hb dX1_litresTimesAge_0 ?_
  refine lv_dstore_n (lv' := [(1, .double 0), (0, .ref r)]) hx hb dX1_litresTimesAge_1 rfl hl (by decide) rfl (fun ls hl => ?_)
  refine lv_iconst (v := 0) hx hb dX1_litresTimesAge_2 (by decide) ?_
  refine lv_istore_n (lv' := [(3, .int 0), (1, .double 0), (0, .ref r)]) hx hb dX1_litresTimesAge_3 rfl hl (by decide) rfl (fun ls hl => ?_)
  refine kW_upR (n) (fun i ls => lv_has ls 4 [(3, .int (nI i)), (1, .double (suP 8 h i)), (0, .ref r)]) (fun i ls hi hl ih => ?_) (fun ls hl => ?_) (lv_sub hl [0, 1, 2] (rfl))
  · refine lv_iload_n hx hb dX1_litresTimesAge_4 rfl (lv_at hl 0 rfl) ?_
    refine lv_aload_n hx hb dX1_litresTimesAge_5 rfl (lv_at hl 2 rfl) ?_
    refine va_get (D := D) (ci := 1) (v := .int (nI n)) (C := RX1) (T := TX1) (N := 5) hx hb hts (by decide +kernel) hown hK hP (0) rfl rfl 1 (by decide) (hts (.fieldLink RX1 18 "VinegarLoft$Row" "count" "I") (by decide +kernel)) (fun _ h9 => h9) rfl dX1_litresTimesAge_6 ?_
    refine lv_icmp_ge (tgt := 40) hx hb dX1_litresTimesAge_9 (by decide) (fun c9 => absurd c9 (nI_ge hi (by omega))) (fun c9 => ?_)
    refine lv_dload_n hx hb dX1_litresTimesAge_12 rfl (lv_at hl 1 rfl) ?_
    refine lv_aload_n hx hb dX1_litresTimesAge_13 rfl (lv_at hl 2 rfl) ?_
    refine va_get (D := D) (ci := 1) (v := .ref la) (C := RX1) (T := TX1) (N := 5) hx hb hts (by decide +kernel) hown hK hP (0) rfl rfl 0 (by decide) (hts (.fieldLink RX1 11 "VinegarLoft$Row" "line" "[LVinegarLoft$Barrel;") (by decide +kernel)) (fun _ h9 => h9) rfl dX1_litresTimesAge_14 ?_
    refine lv_iload_n hx hb dX1_litresTimesAge_17 rfl (lv_at hl 0 rfl) ?_
    refine kx_ald hx hb hK hP (1) 0 rfl rfl (j := i) rfl (by omega) dX1_litresTimesAge_18 ?_
    refine va_get (D := D) (ci := 0) (v := .double (h i)) (C := RX0) (T := TX0) (N := 6) hx hb hts (by decide +kernel) hown hK hP (2 + i) (rowW_b (show i < 8 by omega)) rfl 2 (by decide) (hts (.fieldLink RX1 49 "VinegarLoft$Barrel" "litres" "D") (by decide +kernel)) (fun _ h9 => h9) rfl dX1_litresTimesAge_19 ?_
    refine lv_aload_n hx hb dX1_litresTimesAge_22 rfl (lv_at hl 2 rfl) ?_
    refine va_get (D := D) (ci := 1) (v := .ref la) (C := RX1) (T := TX1) (N := 5) hx hb hts (by decide +kernel) hown hK hP (0) rfl rfl 0 (by decide) (hts (.fieldLink RX1 11 "VinegarLoft$Row" "line" "[LVinegarLoft$Barrel;") (by decide +kernel)) (fun _ h9 => h9) rfl dX1_litresTimesAge_23 ?_
    refine lv_iload_n hx hb dX1_litresTimesAge_26 rfl (lv_at hl 0 rfl) ?_
    refine kx_ald hx hb hK hP (1) 0 rfl rfl (j := i) rfl (by omega) dX1_litresTimesAge_27 ?_
    refine va_get (D := D) (ci := 0) (v := .double (h (8 + i))) (C := RX0) (T := TX0) (N := 6) hx hb hts (by decide +kernel) hown hK hP (2 + i) (rowW_b (show i < 8 by omega)) rfl 3 (by decide) (hts (.fieldLink RX1 66 "VinegarLoft$Barrel" "age" "D") (by decide +kernel)) (fun _ h9 => h9) rfl dX1_litresTimesAge_28 ?_
    refine lv_dmul hx hb dX1_litresTimesAge_31 (ho i hi).1 ?_
    refine lv_dadd hx hb dX1_litresTimesAge_32 (ho i hi).2 ?_
    refine lv_dstore_n (lv' := [(1, .double (FP.dadd (suP 8 h i) (FP.dmul (h i) (h (8 + i))))), (3, .int (nI i)), (0, .ref r)]) hx hb dX1_litresTimesAge_33 rfl hl (by decide) rfl (fun ls hl => ?_)
    refine lv_iinc (v := nI (i + 1)) (lv' := [(3, .int (nI (i + 1))), (1, .double (FP.dadd (suP 8 h i) (FP.dmul (h i) (h (8 + i))))), (0, .ref r)]) hx hb dX1_litresTimesAge_34 hl (k := 1) rfl (nI_1 i) (by decide) rfl (fun ls hl => ?_)
    refine lv_goto (tgt := 4) hx hb dX1_litresTimesAge_37 (by decide) ?_
    exact ih ls (lv_sub hl [0, 1, 2] (rfl))
  · refine lv_iload_n hx hb dX1_litresTimesAge_4 rfl (lv_at hl 0 rfl) ?_
    refine lv_aload_n hx hb dX1_litresTimesAge_5 rfl (lv_at hl 2 rfl) ?_
    refine va_get (D := D) (ci := 1) (v := .int (nI n)) (C := RX1) (T := TX1) (N := 5) hx hb hts (by decide +kernel) hown hK hP (0) rfl rfl 1 (by decide) (hts (.fieldLink RX1 18 "VinegarLoft$Row" "count" "I") (by decide +kernel)) (fun _ h9 => h9) rfl dX1_litresTimesAge_6 ?_
    refine lv_icmp_ge (tgt := 40) hx hb dX1_litresTimesAge_9 (by decide) (fun c9 => ?_) (fun c9 => absurd (nI_le (Nat.le_refl n) (by omega)) c9)
    refine lv_dload_n hx hb dX1_litresTimesAge_40 rfl (lv_at hl 1 rfl) ?_
    exact W.dret hx hb hr (fun t ht hW => ⟨_, rfl, rfl, ht⟩) (fun q hq => absurd hq List.not_mem_nil) dX1_litresTimesAge_41
set_option maxHeartbeats 4000000 in
set_option maxRecDepth 100000 in
/-- litresTimesSugar -/
theorem metX1_litresTimesSugar (l : Launch) (D : va_G) (r la : Nat) (bs : Nat → Nat) (cA : ClassId) (n : Nat) (hn : n ≤ 8) (wm df : Int32) (q : UInt64) (wd zs : Nat → Int32) (h : Nat → UInt64) (ho : suPok 24 h n) : Met l yX1_litresTimesSugar wsX1_litresTimesSugar { frames := 0, cells := 0, slots := 0, locals := 0 } (Pr D [(cA, .object "VinegarLoft$Barrel")] [.ref r] (rowW r la bs cA (nI n) wm df q wd zs h)) (vp_Sd (fun r : UInt64 => r = suP 24 h n)) 0 0 (fun _ => False) := by
  refine Met.ofW (cc := cX1_litresTimesSugar) (maxL := 4) (ret := (some .double)) (by decide) rfl ?_
  intro p e s m args below meth c s₁ B hml hv
  obtain ⟨rfl, hP, hK⟩ := hv
  have hx := B.exec
  have hb := B.bytes
  have hr := B.returns
  have hts := atoms_spec (ws := wsX1_litresTimesSugar) B.pre
  have hown : s.vm.findClass RX1 = some m.cls := findClass_of_methodNamed B.named
  have hlocks := B.notSynchronized
  have hl := lv_entry ([.ref r]) (n := 4) (Nat.le_of_ble_eq_true rfl)
  rw [lg_entry_eq]
  generalize (lg_sl ([.ref r]) ++ List.replicate (4 - (lg_sl ([.ref r])).length) Slot.unset).toArray = ls at hl ⊢
  have hl : lv_has ls 4 [(0, .ref r)] := hl
  refine kd_0 hx hb dX1_litresTimesSugar_0 ?_
  refine lv_dstore_n (lv' := [(1, .double 0), (0, .ref r)]) hx hb dX1_litresTimesSugar_1 rfl hl (by decide) rfl (fun ls hl => ?_)
  refine lv_iconst (v := 0) hx hb dX1_litresTimesSugar_2 (by decide) ?_
  refine lv_istore_n (lv' := [(3, .int 0), (1, .double 0), (0, .ref r)]) hx hb dX1_litresTimesSugar_3 rfl hl (by decide) rfl (fun ls hl => ?_)
  refine kW_upR (n) (fun i ls => lv_has ls 4 [(3, .int (nI i)), (1, .double (suP 24 h i)), (0, .ref r)]) (fun i ls hi hl ih => ?_) (fun ls hl => ?_) (lv_sub hl [0, 1, 2] (rfl))
  · refine lv_iload_n hx hb dX1_litresTimesSugar_4 rfl (lv_at hl 0 rfl) ?_
    refine lv_aload_n hx hb dX1_litresTimesSugar_5 rfl (lv_at hl 2 rfl) ?_
    refine va_get (D := D) (ci := 1) (v := .int (nI n)) (C := RX1) (T := TX1) (N := 5) hx hb hts (by decide +kernel) hown hK hP (0) rfl rfl 1 (by decide) (hts (.fieldLink RX1 18 "VinegarLoft$Row" "count" "I") (by decide +kernel)) (fun _ h9 => h9) rfl dX1_litresTimesSugar_6 ?_
    refine lv_icmp_ge (tgt := 40) hx hb dX1_litresTimesSugar_9 (by decide) (fun c9 => absurd c9 (nI_ge hi (by omega))) (fun c9 => ?_)
    refine lv_dload_n hx hb dX1_litresTimesSugar_12 rfl (lv_at hl 1 rfl) ?_
    refine lv_aload_n hx hb dX1_litresTimesSugar_13 rfl (lv_at hl 2 rfl) ?_
    refine va_get (D := D) (ci := 1) (v := .ref la) (C := RX1) (T := TX1) (N := 5) hx hb hts (by decide +kernel) hown hK hP (0) rfl rfl 0 (by decide) (hts (.fieldLink RX1 11 "VinegarLoft$Row" "line" "[LVinegarLoft$Barrel;") (by decide +kernel)) (fun _ h9 => h9) rfl dX1_litresTimesSugar_14 ?_
    refine lv_iload_n hx hb dX1_litresTimesSugar_17 rfl (lv_at hl 0 rfl) ?_
    refine kx_ald hx hb hK hP (1) 0 rfl rfl (j := i) rfl (by omega) dX1_litresTimesSugar_18 ?_
    refine va_get (D := D) (ci := 0) (v := .double (h i)) (C := RX0) (T := TX0) (N := 6) hx hb hts (by decide +kernel) hown hK hP (2 + i) (rowW_b (show i < 8 by omega)) rfl 2 (by decide) (hts (.fieldLink RX1 49 "VinegarLoft$Barrel" "litres" "D") (by decide +kernel)) (fun _ h9 => h9) rfl dX1_litresTimesSugar_19 ?_
    refine lv_aload_n hx hb dX1_litresTimesSugar_22 rfl (lv_at hl 2 rfl) ?_
    refine va_get (D := D) (ci := 1) (v := .ref la) (C := RX1) (T := TX1) (N := 5) hx hb hts (by decide +kernel) hown hK hP (0) rfl rfl 0 (by decide) (hts (.fieldLink RX1 11 "VinegarLoft$Row" "line" "[LVinegarLoft$Barrel;") (by decide +kernel)) (fun _ h9 => h9) rfl dX1_litresTimesSugar_23 ?_
    refine lv_iload_n hx hb dX1_litresTimesSugar_26 rfl (lv_at hl 0 rfl) ?_
    refine kx_ald hx hb hK hP (1) 0 rfl rfl (j := i) rfl (by omega) dX1_litresTimesSugar_27 ?_
    refine va_get (D := D) (ci := 0) (v := .double (h (24 + i))) (C := RX0) (T := TX0) (N := 6) hx hb hts (by decide +kernel) hown hK hP (2 + i) (rowW_b (show i < 8 by omega)) rfl 5 (by decide) (hts (.fieldLink RX1 72 "VinegarLoft$Barrel" "sugar" "D") (by decide +kernel)) (fun _ h9 => h9) rfl dX1_litresTimesSugar_28 ?_
    refine lv_dmul hx hb dX1_litresTimesSugar_31 (ho i hi).1 ?_
    refine lv_dadd hx hb dX1_litresTimesSugar_32 (ho i hi).2 ?_
    refine lv_dstore_n (lv' := [(1, .double (FP.dadd (suP 24 h i) (FP.dmul (h i) (h (24 + i))))), (3, .int (nI i)), (0, .ref r)]) hx hb dX1_litresTimesSugar_33 rfl hl (by decide) rfl (fun ls hl => ?_)
    refine lv_iinc (v := nI (i + 1)) (lv' := [(3, .int (nI (i + 1))), (1, .double (FP.dadd (suP 24 h i) (FP.dmul (h i) (h (24 + i))))), (0, .ref r)]) hx hb dX1_litresTimesSugar_34 hl (k := 1) rfl (nI_1 i) (by decide) rfl (fun ls hl => ?_)
    refine lv_goto (tgt := 4) hx hb dX1_litresTimesSugar_37 (by decide) ?_
    exact ih ls (lv_sub hl [0, 1, 2] (rfl))
  · refine lv_iload_n hx hb dX1_litresTimesSugar_4 rfl (lv_at hl 0 rfl) ?_
    refine lv_aload_n hx hb dX1_litresTimesSugar_5 rfl (lv_at hl 2 rfl) ?_
    refine va_get (D := D) (ci := 1) (v := .int (nI n)) (C := RX1) (T := TX1) (N := 5) hx hb hts (by decide +kernel) hown hK hP (0) rfl rfl 1 (by decide) (hts (.fieldLink RX1 18 "VinegarLoft$Row" "count" "I") (by decide +kernel)) (fun _ h9 => h9) rfl dX1_litresTimesSugar_6 ?_
    refine lv_icmp_ge (tgt := 40) hx hb dX1_litresTimesSugar_9 (by decide) (fun c9 => ?_) (fun c9 => absurd (nI_le (Nat.le_refl n) (by omega)) c9)
    refine lv_dload_n hx hb dX1_litresTimesSugar_40 rfl (lv_at hl 1 rfl) ?_
    exact W.dret hx hb hr (fun t ht hW => ⟨_, rfl, rfl, ht⟩) (fun q hq => absurd hq List.not_mem_nil) dX1_litresTimesSugar_41
set_option maxHeartbeats 4000000 in
set_option maxRecDepth 100000 in
/-- putBehind(wood, size), where a place is free -/
theorem metX1_putBehind (l : Launch) (D : va_G) (sz : Nat) (r la : Nat) (bs : Nat → Nat) (cA : ClassId) (n : Nat) (hn : n ≤ 8) (wm df : Int32) (q : UInt64) (wd zs : Nat → Int32) (h : Nat → UInt64) (hn8 : n < 8) (x z : Int32)  : Met l yX1_putBehind wsX1_putBehind { frames := 1, cells := 0, slots := 0, locals := 20 } (Pm D [(cA, .object "VinegarLoft$Barrel")] [.ref r, .int x, .int z] (rowW r la bs cA (nI n) wm df q wd zs h) sz) (va_Qi (fun (r : Int32) (_ : Unit) => r = nI n) (Bm D [(cA, .object "VinegarLoft$Barrel")] (va_A (rowW r la bs cA (nI n) wm df q wd zs h) sz) (rowW r la bs cA (nI (n + 1)) wm df q (va_up wd n x) (va_up zs n z) (hset h n 0 0 0 0))) (va_A (rowW r la bs cA (nI n) wm df q wd zs h) sz)) 0 0 (va_A (rowW r la bs cA (nI n) wm df q wd zs h) sz) := by
  refine Met.ofW (cc := cX1_putBehind) (maxL := 4) (ret := (some .int)) (by decide) rfl ?_
  intro p e s m args below meth c s₁ B hml hv
  obtain ⟨rfl, hsz, hP, hK, hD0⟩ := hv
  have hx := B.exec
  have hb := B.bytes
  have hr := B.returns
  have hts := atoms_spec (ws := wsX1_putBehind) B.pre
  have hown : s.vm.findClass RX1 = some m.cls := findClass_of_methodNamed B.named
  have hlocks := B.notSynchronized
  subst hsz
  have hD := hD0.self (sz := s.heap.size)
  generalize hAe : va_A (rowW r la bs cA (nI n) wm df q wd zs h) s.heap.size = A at hD ⊢
  have hA : ∀ q : Nat, s.heap.size ≤ q → A q := fun q h => by rw [← hAe]; exact Or.inr h
  refine kW_H (fun H hH => ?_)
  have hP : va_P D vwCl (rowW r la bs cA (nI n) wm df q wd zs h) H := by rw [hH]; exact hP
  have hS : va_S A s.heap H [] := by rw [hH]; exact va_S.rf
  have hl := lv_entry ([.ref r, .int x, .int z]) (n := 4) (Nat.le_of_ble_eq_true rfl)
  rw [lg_entry_eq]
  generalize (lg_sl ([.ref r, .int x, .int z]) ++ List.replicate (4 - (lg_sl ([.ref r, .int x, .int z])).length) Slot.unset).toArray = ls at hl ⊢
  have hl : lv_has ls 4 [(0, .ref r), (1, .int x), (2, .int z)] := hl
  refine lv_aload_n hx hb dX1_putBehind_0 rfl (lv_at hl 0 rfl) ?_
  refine kr_i (W.runV (As := []) (rest := []) ⟨hx, hb, hml, hown, hts⟩ (metX1_isComplete l D r la bs cA n hn wm df q wd zs h) (cwV 0 hts gX1_putBehind_X1_isComplete rfl rfl rfl (by decide +kernel) ⟨Nat.le_of_ble_eq_true rfl, Nat.le_of_ble_eq_true rfl⟩) (prV 1 0 RX1 TX1 5 rfl rfl hP hK) rfl rfl hl.1 rfl (lv_room (Nat.le_of_ble_eq_true rfl)) dX1_putBehind_1 ⟨Nat.le_of_ble_eq_true rfl, Nat.le_of_ble_eq_true rfl⟩) ?_
  refine lv_if_eq (tgt := 9) hx hb dX1_putBehind_4 (by decide) (fun c4 => ?_) (fun c4 => absurd (if_pos (nI_lt (a := n) (b := 8) hn8 (by decide))) c4)
  refine lv_aload_n hx hb dX1_putBehind_9 rfl (lv_at hl 0 rfl) ?_
  refine va_get (D := D) (ci := 1) (v := .ref la) (C := RX1) (T := TX1) (N := 5) hx hb hts (by decide +kernel) hown hK hP (0) rfl rfl 0 (by decide) (hts (.fieldLink RX1 11 "VinegarLoft$Row" "line" "[LVinegarLoft$Barrel;") (by decide +kernel)) (fun _ h9 => h9) rfl dX1_putBehind_10 ?_
  refine lv_aload_n hx hb dX1_putBehind_13 rfl (lv_at hl 0 rfl) ?_
  refine va_get (D := D) (ci := 1) (v := .int (nI n)) (C := RX1) (T := TX1) (N := 5) hx hb hts (by decide +kernel) hown hK hP (0) rfl rfl 1 (by decide) (hts (.fieldLink RX1 18 "VinegarLoft$Row" "count" "I") (by decide +kernel)) (fun _ h9 => h9) rfl dX1_putBehind_14 ?_
  refine kx_ald hx hb hK hP (1) 0 rfl rfl (j := n) rfl hn8 dX1_putBehind_17 ?_
  refine lv_astore_n (lv' := [(3, .ref (bs n)), (0, .ref r), (1, .int x), (2, .int z)]) hx hb dX1_putBehind_18 rfl hl (by decide) rfl (fun ls hl => ?_)
  refine lv_aload_n hx hb dX1_putBehind_19 rfl (lv_at hl 0 rfl) ?_
  refine lv_iload_n hx hb dX1_putBehind_20 rfl (lv_at hl 2 rfl) ?_
  refine va_put (D := D) (ci := 0) (v := .int x) (ty := .int) (C := RX0) (T := TX0) (N := 6) hx hb hts (by decide +kernel) tyX0 tyX0_ok nmX0 hown hK hP hD hS (2 + n) (rowW_b (show n < 8 by omega)) rfl 0 (by decide) (hts (.fieldLink RX1 43 "VinegarLoft$Barrel" "wood" "I") (by decide +kernel)) (fun _ h9 => h9) rfl (by decide +kernel) rfl rfl (Nat.le_of_ble_eq_true rfl) dX1_putBehind_21 (fun H locs hP hD hS => ?_)
  have hP : va_P D vwCl (rowW r la bs cA (nI n) wm df q (va_up wd n x) zs h) H := by rw [← rowW_sw (show n < 8 by omega)]; exact hP
  have hD : va_D A (rowW r la bs cA (nI n) wm df q (va_up wd n x) zs h) := by rw [← rowW_sw (show n < 8 by omega)]; exact hD
  refine lv_aload_n hx hb dX1_putBehind_24 rfl (lv_at hl 0 rfl) ?_
  refine lv_iload_n hx hb dX1_putBehind_25 rfl (lv_at hl 3 rfl) ?_
  refine va_put (D := D) (ci := 0) (v := .int z) (ty := .int) (C := RX0) (T := TX0) (N := 6) hx hb hts (by decide +kernel) tyX0 tyX0_ok nmX0 hown hK hP hD hS (2 + n) (rowW_b (show n < 8 by omega)) rfl 1 (by decide) (hts (.fieldLink RX1 36 "VinegarLoft$Barrel" "size" "I") (by decide +kernel)) (fun _ h9 => h9) rfl (by decide +kernel) rfl rfl (Nat.le_of_ble_eq_true rfl) dX1_putBehind_26 (fun H locs hP hD hS => ?_)
  have hP : va_P D vwCl (rowW r la bs cA (nI n) wm df q (va_up wd n x) (va_up zs n z) h) H := by rw [← rowW_sz (show n < 8 by omega)]; exact hP
  have hD : va_D A (rowW r la bs cA (nI n) wm df q (va_up wd n x) (va_up zs n z) h) := by rw [← rowW_sz (show n < 8 by omega)]; exact hD
  refine lv_aload_n hx hb dX1_putBehind_29 rfl (lv_at hl 0 rfl) ?_
  refine ko_v (va_runV (As := []) (rest := []) ⟨hx, hb, hml, hown, hts⟩ (metX0_clear l D H.size (bs n) ((va_up wd n x) n) ((va_up zs n z) n) (h n) (h (8 + n)) (h (16 + n)) (h (24 + n))) (cwV 0 hts gX1_putBehind_X0_clear rfl rfl rfl (by decide +kernel) ⟨Nat.le_of_ble_eq_true rfl, Nat.le_of_ble_eq_true rfl⟩) (pmV 0 0 RX0 TX0 6 rfl rfl (vj_oP (rowW_b (show n < 8 by omega)) hP) (hK.sub [] rfl) (vj_oD (rowW_b (show n < 8 by omega)) hD)) rfl rfl hl.1 rfl (lv_room (Nat.le_of_ble_eq_true rfl)) dX1_putBehind_30 ⟨Nat.le_of_ble_eq_true rfl, Nat.le_of_ble_eq_true rfl⟩) (rowW_b (show n < 8 by omega)) hP hD hS hA (fun H locs hP hD hS => ?_)
  have hP : va_P D vwCl (rowW r la bs cA (nI n) wm df q (va_up wd n x) (va_up zs n z) (hset h n 0 0 0 0)) H := by rw [← rowW_sh (show n < 8 by omega)]; exact hP
  have hD : va_D A (rowW r la bs cA (nI n) wm df q (va_up wd n x) (va_up zs n z) (hset h n 0 0 0 0)) := by rw [← rowW_sh (show n < 8 by omega)]; exact hD
  refine lv_aload_n hx hb dX1_putBehind_33 rfl (lv_at hl 1 rfl) ?_
  refine lv_dup hx hb dX1_putBehind_34 rfl ?_
  refine va_get (D := D) (ci := 1) (v := .int (nI n)) (C := RX1) (T := TX1) (N := 5) hx hb hts (by decide +kernel) hown hK hP (0) rfl rfl 1 (by decide) (hts (.fieldLink RX1 18 "VinegarLoft$Row" "count" "I") (by decide +kernel)) (fun _ h9 => h9) rfl dX1_putBehind_35 ?_
  refine lv_iconst (v := 1) hx hb dX1_putBehind_38 (by decide) ?_
  refine lv_iadd hx hb dX1_putBehind_39 ?_
  refine va_put (D := D) (ci := 1) (v := .int ((nI n) + 1)) (ty := .int) (C := RX1) (T := TX1) (N := 5) hx hb hts (by decide +kernel) tyX1 tyX1_ok nmX1 hown hK hP hD hS (0) rfl rfl 1 (by decide) (hts (.fieldLink RX1 18 "VinegarLoft$Row" "count" "I") (by decide +kernel)) (fun _ h9 => h9) rfl (by decide +kernel) rfl rfl (Nat.le_of_ble_eq_true rfl) dX1_putBehind_40 (fun H locs hP hD hS => ?_)
  have hP : va_P D vwCl (rowW r la bs cA ((nI n) + 1) wm df q (va_up wd n x) (va_up zs n z) (hset h n 0 0 0 0)) H := hP
  have hD : va_D A (rowW r la bs cA ((nI n) + 1) wm df q (va_up wd n x) (va_up zs n z) (hset h n 0 0 0 0)) := hD
  refine lv_aload_n hx hb dX1_putBehind_43 rfl (lv_at hl 1 rfl) ?_
  refine va_get (D := D) (ci := 1) (v := .int ((nI n) + 1)) (C := RX1) (T := TX1) (N := 5) hx hb hts (by decide +kernel) hown hK hP (0) rfl rfl 1 (by decide) (hts (.fieldLink RX1 18 "VinegarLoft$Row" "count" "I") (by decide +kernel)) (fun _ h9 => h9) rfl dX1_putBehind_44 ?_
  refine lv_iconst (v := 1) hx hb dX1_putBehind_47 (by decide) ?_
  refine lv_isub hx hb dX1_putBehind_48 ?_
  have hP : va_P D vwCl (rowW r la bs cA (nI (n + 1)) wm df q (va_up wd n x) (va_up zs n z) (hset h n 0 0 0 0)) H := by rw [← nI_1 n]; exact hP
  have hD : va_D A (rowW r la bs cA (nI (n + 1)) wm df q (va_up wd n x) (va_up zs n z) (hset h n 0 0 0 0)) := by rw [← nI_1 n]; exact hD
  exact W.iret hx hb hr (fun t ht hW => ⟨⟨_, (), rfl, by rw [nI_1 n]; exact nI_pred n, by rw [ht]; exact hP, va_K.moved hW.alike hK, hD⟩, hS.F ht⟩) hS.2.2 dX1_putBehind_49
def pmH (n : Nat) (zs : Nat → Int32) (h : Nat → UInt64) (x : UInt64) : Nat → UInt64 := if n = 0 then h else poH h (musv (zs 0) (h 0) x)
def pmR (n : Nat) (zs : Nat → Int32) (h : Nat → UInt64) (x : UInt64) : UInt64 := if n = 0 then 0 else poR (musv (zs 0) (h 0) x)
theorem nI_e0 {n : Nat} (hn : n < 2 ^ 31) : nI n = 0 ↔ n = 0 := by
  constructor
  · intro h
    exact Nat.eq_zero_of_not_pos fun h0 => nI_ne0 h0 hn h
  · rintro rfl; rfl
set_option maxHeartbeats 4000000 in
set_option maxRecDepth 100000 in
/-- pourMust(litres) -/
theorem metX1_pourMust (l : Launch) (D : va_G) (sz : Nat) (r la : Nat) (bs : Nat → Nat) (cA : ClassId) (n : Nat) (hn : n ≤ 8) (wm df : Int32) (q : UInt64) (wd zs : Nat → Int32) (h : Nat → UInt64) (x : Int32) (hp : n ≠ 0 → pook (zs 0) h (FP.i2d x)) : Met l yX1_pourMust wsX1_pourMust { frames := 2, cells := 0, slots := 0, locals := 57 } (Pm D [(cA, .object "VinegarLoft$Barrel")] [.ref r, .int x] (rowW r la bs cA (nI n) wm df q wd zs h) sz) (va_Qd (fun (r : UInt64) (_ : Unit) => r = pmR n zs h (FP.i2d x)) (Bm D [(cA, .object "VinegarLoft$Barrel")] (va_A (rowW r la bs cA (nI n) wm df q wd zs h) sz) (rowW r la bs cA (nI n) wm df q wd zs (pmH n zs h (FP.i2d x)))) (va_A (rowW r la bs cA (nI n) wm df q wd zs h) sz)) 0 0 (va_A (rowW r la bs cA (nI n) wm df q wd zs h) sz) := by
  refine Met.ofW (cc := cX1_pourMust) (maxL := 7) (ret := (some .double)) (by decide) rfl ?_
  intro p e s m args below meth c s₁ B hml hv
  obtain ⟨rfl, hsz, hP, hK, hD0⟩ := hv
  have hx := B.exec
  have hb := B.bytes
  have hr := B.returns
  have hts := atoms_spec (ws := wsX1_pourMust) B.pre
  have hown : s.vm.findClass RX1 = some m.cls := findClass_of_methodNamed B.named
  have hlocks := B.notSynchronized
  subst hsz
  have hD := hD0.self (sz := s.heap.size)
  generalize hAe : va_A (rowW r la bs cA (nI n) wm df q wd zs h) s.heap.size = A at hD ⊢
  have hA : ∀ q : Nat, s.heap.size ≤ q → A q := fun q h => by rw [← hAe]; exact Or.inr h
  refine kW_H (fun H hH => ?_)
  have hP : va_P D vwCl (rowW r la bs cA (nI n) wm df q wd zs h) H := by rw [hH]; exact hP
  have hS : va_S A s.heap H [] := by rw [hH]; exact va_S.rf
  have hl := lv_entry ([.ref r, .int x]) (n := 7) (Nat.le_of_ble_eq_true rfl)
  rw [lg_entry_eq]
  generalize (lg_sl ([.ref r, .int x]) ++ List.replicate (7 - (lg_sl ([.ref r, .int x])).length) Slot.unset).toArray = ls at hl ⊢
  have hl : lv_has ls 7 [(0, .ref r), (1, .int x)] := hl
  refine lv_aload_n hx hb dX1_pourMust_0 rfl (lv_at hl 0 rfl) ?_
  refine va_get (D := D) (ci := 1) (v := .int (nI n)) (C := RX1) (T := TX1) (N := 5) hx hb hts (by decide +kernel) hown hK hP (0) rfl rfl 1 (by decide) (hts (.fieldLink RX1 18 "VinegarLoft$Row" "count" "I") (by decide +kernel)) (fun _ h9 => h9) rfl dX1_pourMust_1 ?_
  refine lv_if_ne (tgt := 9) hx hb dX1_pourMust_4 (by decide) (fun c4 => ?_) (fun c4 => ?_)
  · have h0 : n ≠ 0 := fun h => c4 ((nI_e0 (by omega)).mpr h)
    obtain ⟨p1, p2, p3, p4⟩ := hp h0
    refine lv_aload_n hx hb dX1_pourMust_9 rfl (lv_at hl 0 rfl) ?_
    refine va_get (D := D) (ci := 1) (v := .ref la) (C := RX1) (T := TX1) (N := 5) hx hb hts (by decide +kernel) hown hK hP (0) rfl rfl 0 (by decide) (hts (.fieldLink RX1 11 "VinegarLoft$Row" "line" "[LVinegarLoft$Barrel;") (by decide +kernel)) (fun _ h9 => h9) rfl dX1_pourMust_10 ?_
    refine lv_iconst (v := 0) hx hb dX1_pourMust_13 (by decide) ?_
    refine kx_ald hx hb hK hP (1) 0 rfl rfl (j := 0) rfl (by decide) dX1_pourMust_14 ?_
    refine lv_astore_n (lv' := [(2, .ref (bs 0)), (0, .ref r), (1, .int x)]) hx hb dX1_pourMust_15 rfl hl (by decide) rfl (fun ls hl => ?_)
    refine lv_aload_n hx hb dX1_pourMust_16 rfl (lv_at hl 0 rfl) ?_
    refine va_get (D := D) (ci := 0) (v := .int (zs 0)) (C := RX0) (T := TX0) (N := 6) hx hb hts (by decide +kernel) hown hK hP (2) rfl rfl 1 (by decide) (hts (.fieldLink RX1 36 "VinegarLoft$Barrel" "size" "I") (by decide +kernel)) (fun _ h9 => h9) rfl dX1_pourMust_17 ?_
    refine lv_i2d hx hb dX1_pourMust_20 ?_
    refine lv_aload_n hx hb dX1_pourMust_21 rfl (lv_at hl 0 rfl) ?_
    refine va_get (D := D) (ci := 0) (v := .double (h 0)) (C := RX0) (T := TX0) (N := 6) hx hb hts (by decide +kernel) hown hK hP (2) rfl rfl 2 (by decide) (hts (.fieldLink RX1 49 "VinegarLoft$Barrel" "litres" "D") (by decide +kernel)) (fun _ h9 => h9) rfl dX1_pourMust_22 ?_
    refine lv_dsub hx hb dX1_pourMust_25 p1 ?_
    refine lv_dstore_n (lv' := [(3, .double (FP.dsub (FP.i2d (zs 0)) (h 0))), (2, .ref (bs 0)), (0, .ref r), (1, .int x)]) hx hb dX1_pourMust_26 rfl hl (by decide) rfl (fun ls hl => ?_)
    refine lv_iload_n hx hb dX1_pourMust_27 rfl (lv_at hl 3 rfl) ?_
    refine lv_i2d hx hb dX1_pourMust_28 ?_
    refine lv_dload_n hx hb dX1_pourMust_29 rfl (lv_at hl 0 rfl) ?_
    refine kd_ge (tgt := 39) hx hb dX1_pourMust_30 dX1_pourMust_31 (by decide) p2 (fun c30 => ?_) (fun c30 => ?_)
    · refine lv_dload_n hx hb dX1_pourMust_39 rfl (lv_at hl 0 rfl) ?_
      refine kd_eq (show (FP.dsub (FP.i2d (zs 0)) (h 0)) = musv (zs 0) (h 0) (FP.i2d x) from by unfold musv lesv; rw [if_neg c30]) ?_
      refine lv_dstore (lv' := [(5, .double (musv (zs 0) (h 0) (FP.i2d x))), (3, .double (FP.dsub (FP.i2d (zs 0)) (h 0))), (2, .ref (bs 0)), (0, .ref r), (1, .int x)]) hx hb dX1_pourMust_40 hl (by decide) rfl (fun ls hl => ?_)
      refine lv_dload hx hb dX1_pourMust_42 (lv_at hl 0 rfl) ?_
      refine kd_0 hx hb dX1_pourMust_44 ?_
      refine kd_gt (tgt := 51) hx hb dX1_pourMust_45 dX1_pourMust_46 (by decide) p3 (fun c45 => ?_) (fun c45 => ?_)
      · refine lv_aload_n hx hb dX1_pourMust_51 rfl (lv_at hl 2 rfl) ?_
        refine lv_dload hx hb dX1_pourMust_52 (lv_at hl 0 rfl) ?_
        refine kd_0 hx hb dX1_pourMust_54 ?_
        refine kd_1 hx hb dX1_pourMust_55 ?_
        refine lv_ldc2d hx hb hown (hts (.constantDouble RX1 52 4629137466983448576) (by decide +kernel)) dX1_pourMust_56 ?_
        obtain ⟨m1, m2, m3⟩ := p4 c45
        refine ko_v (k := 2) (va_runV (As := [.double (musv (zs 0) (h 0) (FP.i2d x)), .double 0, .double 4607182418800017408, .double 4629137466983448576]) (rest := []) ⟨hx, hb, hml, hown, hts⟩ (metX0_mixIn l D H.size (bs 0) (wd 0) (zs 0) (h 0) (h 8) (h 16) (h 24) (musv (zs 0) (h 0) (FP.i2d x)) 0 4607182418800017408 4629137466983448576 m1 m2 m3) (cwV 4 hts gX1_pourMust_X0_mixIn rfl rfl rfl (by decide +kernel) ⟨Nat.le_of_ble_eq_true rfl, Nat.le_of_ble_eq_true rfl⟩) (pmV 0 0 RX0 TX0 6 rfl rfl (vj_oP (k := 2) rfl hP) (hK.sub [] rfl) (vj_oD (k := 2) rfl hD)) rfl rfl hl.1 rfl (lv_room (Nat.le_of_ble_eq_true rfl)) dX1_pourMust_59 ⟨Nat.le_of_ble_eq_true rfl, Nat.le_of_ble_eq_true rfl⟩) rfl hP hD hS hA (fun H locs hP hD hS => ?_)
        have hP : va_P D vwCl (rowW r la bs cA (nI n) wm df q wd zs (poH h (musv (zs 0) (h 0) (FP.i2d x)))) H := by unfold poH; rw [if_pos c45, ← rowW_sh (i := 0) (by decide)]; exact hP
        have hD : va_D A (rowW r la bs cA (nI n) wm df q wd zs (poH h (musv (zs 0) (h 0) (FP.i2d x)))) := by unfold poH; rw [if_pos c45, ← rowW_sh (i := 0) (by decide)]; exact hD
        refine lv_dload hx hb dX1_pourMust_62 (lv_at hl 0 rfl) ?_
        have hP : va_P D vwCl (rowW r la bs cA (nI n) wm df q wd zs (pmH n zs h (FP.i2d x))) H := by unfold pmH; rw [if_neg h0]; exact hP
        have hD : va_D A (rowW r la bs cA (nI n) wm df q wd zs (pmH n zs h (FP.i2d x))) := by unfold pmH; rw [if_neg h0]; exact hD
        exact W.dret hx hb hr (fun t ht hW => ⟨⟨_, (), rfl, by unfold pmR; rw [if_neg h0]; unfold poR; rw [if_pos c45], by rw [ht]; exact hP, va_K.moved hW.alike hK, hD⟩, hS.F ht⟩) hS.2.2 dX1_pourMust_64
      · refine kd_0 hx hb dX1_pourMust_49 ?_
        have hP : va_P D vwCl (rowW r la bs cA (nI n) wm df q wd zs (pmH n zs h (FP.i2d x))) H := by unfold pmH; rw [if_neg h0]; unfold poH; rw [if_neg c45]; exact hP
        have hD : va_D A (rowW r la bs cA (nI n) wm df q wd zs (pmH n zs h (FP.i2d x))) := by unfold pmH; rw [if_neg h0]; unfold poH; rw [if_neg c45]; exact hD
        exact W.dret hx hb hr (fun t ht hW => ⟨⟨_, (), rfl, by unfold pmR; rw [if_neg h0]; unfold poR; rw [if_neg c45], by rw [ht]; exact hP, va_K.moved hW.alike hK, hD⟩, hS.F ht⟩) hS.2.2 dX1_pourMust_50
    · refine lv_iload_n hx hb dX1_pourMust_34 rfl (lv_at hl 3 rfl) ?_
      refine lv_i2d hx hb dX1_pourMust_35 ?_
      refine lv_goto (tgt := 40) hx hb dX1_pourMust_36 (by decide) ?_
      refine kd_eq (show (FP.i2d x) = musv (zs 0) (h 0) (FP.i2d x) from by unfold musv lesv; rw [if_pos c30]) ?_
      refine lv_dstore (lv' := [(5, .double (musv (zs 0) (h 0) (FP.i2d x))), (3, .double (FP.dsub (FP.i2d (zs 0)) (h 0))), (2, .ref (bs 0)), (0, .ref r), (1, .int x)]) hx hb dX1_pourMust_40 hl (by decide) rfl (fun ls hl => ?_)
      refine lv_dload hx hb dX1_pourMust_42 (lv_at hl 0 rfl) ?_
      refine kd_0 hx hb dX1_pourMust_44 ?_
      refine kd_gt (tgt := 51) hx hb dX1_pourMust_45 dX1_pourMust_46 (by decide) p3 (fun c45 => ?_) (fun c45 => ?_)
      · refine lv_aload_n hx hb dX1_pourMust_51 rfl (lv_at hl 2 rfl) ?_
        refine lv_dload hx hb dX1_pourMust_52 (lv_at hl 0 rfl) ?_
        refine kd_0 hx hb dX1_pourMust_54 ?_
        refine kd_1 hx hb dX1_pourMust_55 ?_
        refine lv_ldc2d hx hb hown (hts (.constantDouble RX1 52 4629137466983448576) (by decide +kernel)) dX1_pourMust_56 ?_
        obtain ⟨m1, m2, m3⟩ := p4 c45
        refine ko_v (k := 2) (va_runV (As := [.double (musv (zs 0) (h 0) (FP.i2d x)), .double 0, .double 4607182418800017408, .double 4629137466983448576]) (rest := []) ⟨hx, hb, hml, hown, hts⟩ (metX0_mixIn l D H.size (bs 0) (wd 0) (zs 0) (h 0) (h 8) (h 16) (h 24) (musv (zs 0) (h 0) (FP.i2d x)) 0 4607182418800017408 4629137466983448576 m1 m2 m3) (cwV 4 hts gX1_pourMust_X0_mixIn rfl rfl rfl (by decide +kernel) ⟨Nat.le_of_ble_eq_true rfl, Nat.le_of_ble_eq_true rfl⟩) (pmV 0 0 RX0 TX0 6 rfl rfl (vj_oP (k := 2) rfl hP) (hK.sub [] rfl) (vj_oD (k := 2) rfl hD)) rfl rfl hl.1 rfl (lv_room (Nat.le_of_ble_eq_true rfl)) dX1_pourMust_59 ⟨Nat.le_of_ble_eq_true rfl, Nat.le_of_ble_eq_true rfl⟩) rfl hP hD hS hA (fun H locs hP hD hS => ?_)
        have hP : va_P D vwCl (rowW r la bs cA (nI n) wm df q wd zs (poH h (musv (zs 0) (h 0) (FP.i2d x)))) H := by unfold poH; rw [if_pos c45, ← rowW_sh (i := 0) (by decide)]; exact hP
        have hD : va_D A (rowW r la bs cA (nI n) wm df q wd zs (poH h (musv (zs 0) (h 0) (FP.i2d x)))) := by unfold poH; rw [if_pos c45, ← rowW_sh (i := 0) (by decide)]; exact hD
        refine lv_dload hx hb dX1_pourMust_62 (lv_at hl 0 rfl) ?_
        have hP : va_P D vwCl (rowW r la bs cA (nI n) wm df q wd zs (pmH n zs h (FP.i2d x))) H := by unfold pmH; rw [if_neg h0]; exact hP
        have hD : va_D A (rowW r la bs cA (nI n) wm df q wd zs (pmH n zs h (FP.i2d x))) := by unfold pmH; rw [if_neg h0]; exact hD
        exact W.dret hx hb hr (fun t ht hW => ⟨⟨_, (), rfl, by unfold pmR; rw [if_neg h0]; unfold poR; rw [if_pos c45], by rw [ht]; exact hP, va_K.moved hW.alike hK, hD⟩, hS.F ht⟩) hS.2.2 dX1_pourMust_64
      · refine kd_0 hx hb dX1_pourMust_49 ?_
        have hP : va_P D vwCl (rowW r la bs cA (nI n) wm df q wd zs (pmH n zs h (FP.i2d x))) H := by unfold pmH; rw [if_neg h0]; unfold poH; rw [if_neg c45]; exact hP
        have hD : va_D A (rowW r la bs cA (nI n) wm df q wd zs (pmH n zs h (FP.i2d x))) := by unfold pmH; rw [if_neg h0]; unfold poH; rw [if_neg c45]; exact hD
        exact W.dret hx hb hr (fun t ht hW => ⟨⟨_, (), rfl, by unfold pmR; rw [if_neg h0]; unfold poR; rw [if_neg c45], by rw [ht]; exact hP, va_K.moved hW.alike hK, hD⟩, hS.F ht⟩) hS.2.2 dX1_pourMust_50
  · have h0 : n = 0 := (nI_e0 (by omega)).mp c4
    refine kd_0 hx hb dX1_pourMust_7 ?_
    have hP : va_P D vwCl (rowW r la bs cA (nI n) wm df q wd zs (pmH n zs h (FP.i2d x))) H := by unfold pmH; rw [if_pos h0]; exact hP
    have hD : va_D A (rowW r la bs cA (nI n) wm df q wd zs (pmH n zs h (FP.i2d x))) := by unfold pmH; rw [if_pos h0]; exact hD
    exact W.dret hx hb hr (fun t ht hW => ⟨⟨_, (), rfl, by unfold pmR; rw [if_pos h0], by rw [ht]; exact hP, va_K.moved hW.alike hK, hD⟩, hS.F ht⟩) hS.2.2 dX1_pourMust_8
set_option maxHeartbeats 4000000 in
set_option maxRecDepth 100000 in
/-- passBetween(ahead, behind), where something goes -/
theorem metX1_passBetween_y (l : Launch) (D : va_G) (sz : Nat) (x1 x2 : Nat) (w1 z1 : Int32) (l1 g1 a1 s1 : UInt64) (w2 z2 : Int32) (l2 g2 a2 s2 : UInt64) (hp : paok z2 l1 g1 a1 s1 l2 g2 a2 s2) (hg : FP.dcmp (goev z2 l2 l1) 0 = some .gt) : Met l yX1_passBetween wsX1_passBetween { frames := 2, cells := 0, slots := 0, locals := 57 } (Pm D [] [.ref x1, .ref x2] ([(x1, .inr (0, [.int w1, .int z1, .double l1, .double g1, .double a1, .double s1])), (x2, .inr (0, [.int w2, .int z2, .double l2, .double g2, .double a2, .double s2]))]) sz) (va_Qd (fun (r : UInt64) (_ : Unit) => r = goev z2 l2 l1) (Bm D [] (va_A ([(x1, .inr (0, [.int w1, .int z1, .double l1, .double g1, .double a1, .double s1])), (x2, .inr (0, [.int w2, .int z2, .double l2, .double g2, .double a2, .double s2]))]) sz) ([(x1, .inr (0, [.int w1, .int z1, .double (FP.dsub l1 (goev z2 l2 l1)), .double g1, .double a1, .double s1])), (x2, .inr (0, [.int w2, .int z2, .double (FP.dadd l2 (goev z2 l2 l1)), .double (mixv l2 g2 (goev z2 l2 l1) g1), .double (mixv l2 a2 (goev z2 l2 l1) a1), .double (mixv l2 s2 (goev z2 l2 l1) s1)]))])) (va_A ([(x1, .inr (0, [.int w1, .int z1, .double l1, .double g1, .double a1, .double s1])), (x2, .inr (0, [.int w2, .int z2, .double l2, .double g2, .double a2, .double s2]))]) sz)) 0 0 (va_A ([(x1, .inr (0, [.int w1, .int z1, .double l1, .double g1, .double a1, .double s1])), (x2, .inr (0, [.int w2, .int z2, .double l2, .double g2, .double a2, .double s2]))]) sz) := by
  refine Met.ofW (cc := cX1_passBetween) (maxL := 8) (ret := (some .double)) (by decide) rfl ?_
  intro p e s m args below meth c s₁ B hml hv
  obtain ⟨rfl, hsz, hP, hK, hD0⟩ := hv
  have hx := B.exec
  have hb := B.bytes
  have hr := B.returns
  have hts := atoms_spec (ws := wsX1_passBetween) B.pre
  have hown : s.vm.findClass RX1 = some m.cls := findClass_of_methodNamed B.named
  have hlocks := B.notSynchronized
  subst hsz
  have hD := hD0.self (sz := s.heap.size)
  generalize hAe : va_A ([(x1, .inr (0, [.int w1, .int z1, .double l1, .double g1, .double a1, .double s1])), (x2, .inr (0, [.int w2, .int z2, .double l2, .double g2, .double a2, .double s2]))]) s.heap.size = A at hD ⊢
  have hA : ∀ q : Nat, s.heap.size ≤ q → A q := fun q h => by rw [← hAe]; exact Or.inr h
  refine kW_H (fun H hH => ?_)
  have hP : va_P D vwCl ([(x1, .inr (0, [.int w1, .int z1, .double l1, .double g1, .double a1, .double s1])), (x2, .inr (0, [.int w2, .int z2, .double l2, .double g2, .double a2, .double s2]))]) H := by rw [hH]; exact hP
  have hS : va_S A s.heap H [] := by rw [hH]; exact va_S.rf
  have hl := lv_entry ([.ref x1, .ref x2]) (n := 8) (Nat.le_of_ble_eq_true rfl)
  rw [lg_entry_eq]
  generalize (lg_sl ([.ref x1, .ref x2]) ++ List.replicate (8 - (lg_sl ([.ref x1, .ref x2])).length) Slot.unset).toArray = ls at hl ⊢
  have hl : lv_has ls 8 [(0, .ref x1), (1, .ref x2)] := hl
  obtain ⟨q1, q2, q3, q4, q5, q6⟩ := hp
  obtain ⟨m1, m2, m3, m4, m5⟩ := q6 hg
  refine lv_ldc2d hx hb hown (hts (.constantDouble RX1 62 4606281698874543309) (by decide +kernel)) dX1_passBetween_0 ?_
  refine lv_aload_n hx hb dX1_passBetween_3 rfl (lv_at hl 1 rfl) ?_
  refine va_get (D := D) (ci := 0) (v := .int z2) (C := RX0) (T := TX0) (N := 6) hx hb hts (by decide +kernel) hown hK hP (1) rfl rfl 1 (by decide) (hts (.fieldLink RX1 36 "VinegarLoft$Barrel" "size" "I") (by decide +kernel)) (fun _ h9 => h9) rfl dX1_passBetween_4 ?_
  refine lv_i2d hx hb dX1_passBetween_7 ?_
  refine lv_dmul hx hb dX1_passBetween_8 q1 ?_
  refine lv_aload_n hx hb dX1_passBetween_9 rfl (lv_at hl 1 rfl) ?_
  refine va_get (D := D) (ci := 0) (v := .double l2) (C := RX0) (T := TX0) (N := 6) hx hb hts (by decide +kernel) hown hK hP (1) rfl rfl 2 (by decide) (hts (.fieldLink RX1 49 "VinegarLoft$Barrel" "litres" "D") (by decide +kernel)) (fun _ h9 => h9) rfl dX1_passBetween_10 ?_
  refine lv_dsub hx hb dX1_passBetween_13 q2 ?_
  refine lv_dstore_n (lv' := [(2, .double (FP.dsub (FP.dmul 4606281698874543309 (FP.i2d z2)) l2)), (0, .ref x1), (1, .ref x2)]) hx hb dX1_passBetween_14 rfl hl (by decide) rfl (fun ls hl => ?_)
  refine lv_ldc2d hx hb hown (hts (.constantDouble RX1 64 4602678819172646912) (by decide +kernel)) dX1_passBetween_15 ?_
  refine lv_aload_n hx hb dX1_passBetween_18 rfl (lv_at hl 1 rfl) ?_
  refine va_get (D := D) (ci := 0) (v := .double l1) (C := RX0) (T := TX0) (N := 6) hx hb hts (by decide +kernel) hown hK hP (0) rfl rfl 2 (by decide) (hts (.fieldLink RX1 49 "VinegarLoft$Barrel" "litres" "D") (by decide +kernel)) (fun _ h9 => h9) rfl dX1_passBetween_19 ?_
  refine lv_dmul hx hb dX1_passBetween_22 q3 ?_
  refine lv_dstore (lv' := [(4, .double (FP.dmul 4602678819172646912 l1)), (2, .double (FP.dsub (FP.dmul 4606281698874543309 (FP.i2d z2)) l2)), (0, .ref x1), (1, .ref x2)]) hx hb dX1_passBetween_23 hl (by decide) rfl (fun ls hl => ?_)
  refine lv_dload_n hx hb dX1_passBetween_25 rfl (lv_at hl 1 rfl) ?_
  refine lv_dload hx hb dX1_passBetween_26 (lv_at hl 0 rfl) ?_
  refine kd_ge (tgt := 36) hx hb dX1_passBetween_28 dX1_passBetween_29 (by decide) q4 (fun c28 => ?_) (fun c28 => ?_)
  · refine lv_dload hx hb dX1_passBetween_36 (lv_at hl 0 rfl) ?_
    refine kd_eq (show (FP.dmul 4602678819172646912 l1) = goev z2 l2 l1 from by unfold goev lesv; rw [if_neg c28]) ?_
    refine lv_dstore (lv' := [(6, .double (goev z2 l2 l1)), (4, .double (FP.dmul 4602678819172646912 l1)), (2, .double (FP.dsub (FP.dmul 4606281698874543309 (FP.i2d z2)) l2)), (0, .ref x1), (1, .ref x2)]) hx hb dX1_passBetween_38 hl (by decide) rfl (fun ls hl => ?_)
    refine lv_dload hx hb dX1_passBetween_40 (lv_at hl 0 rfl) ?_
    refine kd_0 hx hb dX1_passBetween_42 ?_
    refine kd_gt (tgt := 49) hx hb dX1_passBetween_43 dX1_passBetween_44 (by decide) q5 (fun c43 => ?_) (fun c43 => absurd hg c43)
    refine lv_aload_n hx hb dX1_passBetween_49 rfl (lv_at hl 4 rfl) ?_
    refine lv_dload hx hb dX1_passBetween_50 (lv_at hl 0 rfl) ?_
    refine lv_aload_n hx hb dX1_passBetween_52 rfl (lv_at hl 3 rfl) ?_
    refine va_get (D := D) (ci := 0) (v := .double g1) (C := RX0) (T := TX0) (N := 6) hx hb hts (by decide +kernel) hown hK hP (0) rfl rfl 3 (by decide) (hts (.fieldLink RX1 66 "VinegarLoft$Barrel" "age" "D") (by decide +kernel)) (fun _ h9 => h9) rfl dX1_passBetween_53 ?_
    refine lv_aload_n hx hb dX1_passBetween_56 rfl (lv_at hl 3 rfl) ?_
    refine va_get (D := D) (ci := 0) (v := .double a1) (C := RX0) (T := TX0) (N := 6) hx hb hts (by decide +kernel) hown hK hP (0) rfl rfl 4 (by decide) (hts (.fieldLink RX1 69 "VinegarLoft$Barrel" "acid" "D") (by decide +kernel)) (fun _ h9 => h9) rfl dX1_passBetween_57 ?_
    refine lv_aload_n hx hb dX1_passBetween_60 rfl (lv_at hl 3 rfl) ?_
    refine va_get (D := D) (ci := 0) (v := .double s1) (C := RX0) (T := TX0) (N := 6) hx hb hts (by decide +kernel) hown hK hP (0) rfl rfl 5 (by decide) (hts (.fieldLink RX1 72 "VinegarLoft$Barrel" "sugar" "D") (by decide +kernel)) (fun _ h9 => h9) rfl dX1_passBetween_61 ?_
    refine ko_v (k := 1) (va_runV (As := [.double (goev z2 l2 l1), .double g1, .double a1, .double s1]) (rest := []) ⟨hx, hb, hml, hown, hts⟩ (metX0_mixIn l D H.size x2 w2 z2 l2 g2 a2 s2 (goev z2 l2 l1) g1 a1 s1 m1 m2 m3) (cwV 4 hts gX1_passBetween_X0_mixIn rfl rfl rfl (by decide +kernel) ⟨Nat.le_of_ble_eq_true rfl, Nat.le_of_ble_eq_true rfl⟩) (pmV 0 0 RX0 TX0 6 rfl rfl (vj_oP (k := 1) rfl hP) (hK.sub [] rfl) (vj_oD (k := 1) rfl hD)) rfl rfl hl.1 rfl (lv_room (Nat.le_of_ble_eq_true rfl)) dX1_passBetween_64 ⟨Nat.le_of_ble_eq_true rfl, Nat.le_of_ble_eq_true rfl⟩) rfl hP hD hS hA (fun H locs hP hD hS => ?_)
    have hP : va_P D vwCl [(x1, .inr (0, [.int w1, .int z1, .double l1, .double g1, .double a1, .double s1])), (x2, .inr (0, [.int w2, .int z2, .double (FP.dadd l2 (goev z2 l2 l1)), .double (mixv l2 g2 (goev z2 l2 l1) g1), .double (mixv l2 a2 (goev z2 l2 l1) a1), .double (mixv l2 s2 (goev z2 l2 l1) s1)]))] H := hP
    have hD : va_D A [(x1, .inr (0, [.int w1, .int z1, .double l1, .double g1, .double a1, .double s1])), (x2, .inr (0, [.int w2, .int z2, .double (FP.dadd l2 (goev z2 l2 l1)), .double (mixv l2 g2 (goev z2 l2 l1) g1), .double (mixv l2 a2 (goev z2 l2 l1) a1), .double (mixv l2 s2 (goev z2 l2 l1) s1)]))] := hD
    refine lv_aload_n hx hb dX1_passBetween_67 rfl (lv_at hl 3 rfl) ?_
    refine lv_dload hx hb dX1_passBetween_68 (lv_at hl 0 rfl) ?_
    refine ko_v (k := 0) (va_runV (As := [.double (goev z2 l2 l1)]) (rest := []) ⟨hx, hb, hml, hown, hts⟩ (metX0_takeOut l D H.size x1 w1 z1 l1 g1 a1 s1 (goev z2 l2 l1) m4 (gt_ne m5)) (cwV 1 hts gX1_passBetween_X0_takeOut rfl rfl rfl (by decide +kernel) ⟨Nat.le_of_ble_eq_true rfl, Nat.le_of_ble_eq_true rfl⟩) (pmV 0 0 RX0 TX0 6 rfl rfl (vj_oP (k := 0) rfl hP) (hK.sub [] rfl) (vj_oD (k := 0) rfl hD)) rfl rfl hl.1 rfl (lv_room (Nat.le_of_ble_eq_true rfl)) dX1_passBetween_70 ⟨Nat.le_of_ble_eq_true rfl, Nat.le_of_ble_eq_true rfl⟩) rfl hP hD hS hA (fun H locs hP hD hS => ?_)
    have ek : tkE w1 z1 l1 g1 a1 s1 (goev z2 l2 l1) = EB w1 z1 (FP.dsub l1 (goev z2 l2 l1)) g1 a1 s1 := by unfold tkE; rw [if_pos m5]
    rw [ek] at hP hD
    have hP : va_P D vwCl [(x1, .inr (0, [.int w1, .int z1, .double (FP.dsub l1 (goev z2 l2 l1)), .double g1, .double a1, .double s1])), (x2, .inr (0, [.int w2, .int z2, .double (FP.dadd l2 (goev z2 l2 l1)), .double (mixv l2 g2 (goev z2 l2 l1) g1), .double (mixv l2 a2 (goev z2 l2 l1) a1), .double (mixv l2 s2 (goev z2 l2 l1) s1)]))] H := hP
    have hD : va_D A [(x1, .inr (0, [.int w1, .int z1, .double (FP.dsub l1 (goev z2 l2 l1)), .double g1, .double a1, .double s1])), (x2, .inr (0, [.int w2, .int z2, .double (FP.dadd l2 (goev z2 l2 l1)), .double (mixv l2 g2 (goev z2 l2 l1) g1), .double (mixv l2 a2 (goev z2 l2 l1) a1), .double (mixv l2 s2 (goev z2 l2 l1) s1)]))] := hD
    refine lv_dload hx hb dX1_passBetween_73 (lv_at hl 0 rfl) ?_
    exact W.dret hx hb hr (fun t ht hW => ⟨⟨_, (), rfl, rfl, by rw [ht]; exact hP, va_K.moved hW.alike hK, hD⟩, hS.F ht⟩) hS.2.2 dX1_passBetween_75
  · refine lv_dload_n hx hb dX1_passBetween_32 rfl (lv_at hl 1 rfl) ?_
    refine lv_goto (tgt := 38) hx hb dX1_passBetween_33 (by decide) ?_
    refine kd_eq (show (FP.dsub (FP.dmul 4606281698874543309 (FP.i2d z2)) l2) = goev z2 l2 l1 from by unfold goev lesv; rw [if_pos c28]) ?_
    refine lv_dstore (lv' := [(6, .double (goev z2 l2 l1)), (4, .double (FP.dmul 4602678819172646912 l1)), (2, .double (FP.dsub (FP.dmul 4606281698874543309 (FP.i2d z2)) l2)), (0, .ref x1), (1, .ref x2)]) hx hb dX1_passBetween_38 hl (by decide) rfl (fun ls hl => ?_)
    refine lv_dload hx hb dX1_passBetween_40 (lv_at hl 0 rfl) ?_
    refine kd_0 hx hb dX1_passBetween_42 ?_
    refine kd_gt (tgt := 49) hx hb dX1_passBetween_43 dX1_passBetween_44 (by decide) q5 (fun c43 => ?_) (fun c43 => absurd hg c43)
    refine lv_aload_n hx hb dX1_passBetween_49 rfl (lv_at hl 4 rfl) ?_
    refine lv_dload hx hb dX1_passBetween_50 (lv_at hl 0 rfl) ?_
    refine lv_aload_n hx hb dX1_passBetween_52 rfl (lv_at hl 3 rfl) ?_
    refine va_get (D := D) (ci := 0) (v := .double g1) (C := RX0) (T := TX0) (N := 6) hx hb hts (by decide +kernel) hown hK hP (0) rfl rfl 3 (by decide) (hts (.fieldLink RX1 66 "VinegarLoft$Barrel" "age" "D") (by decide +kernel)) (fun _ h9 => h9) rfl dX1_passBetween_53 ?_
    refine lv_aload_n hx hb dX1_passBetween_56 rfl (lv_at hl 3 rfl) ?_
    refine va_get (D := D) (ci := 0) (v := .double a1) (C := RX0) (T := TX0) (N := 6) hx hb hts (by decide +kernel) hown hK hP (0) rfl rfl 4 (by decide) (hts (.fieldLink RX1 69 "VinegarLoft$Barrel" "acid" "D") (by decide +kernel)) (fun _ h9 => h9) rfl dX1_passBetween_57 ?_
    refine lv_aload_n hx hb dX1_passBetween_60 rfl (lv_at hl 3 rfl) ?_
    refine va_get (D := D) (ci := 0) (v := .double s1) (C := RX0) (T := TX0) (N := 6) hx hb hts (by decide +kernel) hown hK hP (0) rfl rfl 5 (by decide) (hts (.fieldLink RX1 72 "VinegarLoft$Barrel" "sugar" "D") (by decide +kernel)) (fun _ h9 => h9) rfl dX1_passBetween_61 ?_
    refine ko_v (k := 1) (va_runV (As := [.double (goev z2 l2 l1), .double g1, .double a1, .double s1]) (rest := []) ⟨hx, hb, hml, hown, hts⟩ (metX0_mixIn l D H.size x2 w2 z2 l2 g2 a2 s2 (goev z2 l2 l1) g1 a1 s1 m1 m2 m3) (cwV 4 hts gX1_passBetween_X0_mixIn rfl rfl rfl (by decide +kernel) ⟨Nat.le_of_ble_eq_true rfl, Nat.le_of_ble_eq_true rfl⟩) (pmV 0 0 RX0 TX0 6 rfl rfl (vj_oP (k := 1) rfl hP) (hK.sub [] rfl) (vj_oD (k := 1) rfl hD)) rfl rfl hl.1 rfl (lv_room (Nat.le_of_ble_eq_true rfl)) dX1_passBetween_64 ⟨Nat.le_of_ble_eq_true rfl, Nat.le_of_ble_eq_true rfl⟩) rfl hP hD hS hA (fun H locs hP hD hS => ?_)
    have hP : va_P D vwCl [(x1, .inr (0, [.int w1, .int z1, .double l1, .double g1, .double a1, .double s1])), (x2, .inr (0, [.int w2, .int z2, .double (FP.dadd l2 (goev z2 l2 l1)), .double (mixv l2 g2 (goev z2 l2 l1) g1), .double (mixv l2 a2 (goev z2 l2 l1) a1), .double (mixv l2 s2 (goev z2 l2 l1) s1)]))] H := hP
    have hD : va_D A [(x1, .inr (0, [.int w1, .int z1, .double l1, .double g1, .double a1, .double s1])), (x2, .inr (0, [.int w2, .int z2, .double (FP.dadd l2 (goev z2 l2 l1)), .double (mixv l2 g2 (goev z2 l2 l1) g1), .double (mixv l2 a2 (goev z2 l2 l1) a1), .double (mixv l2 s2 (goev z2 l2 l1) s1)]))] := hD
    refine lv_aload_n hx hb dX1_passBetween_67 rfl (lv_at hl 3 rfl) ?_
    refine lv_dload hx hb dX1_passBetween_68 (lv_at hl 0 rfl) ?_
    refine ko_v (k := 0) (va_runV (As := [.double (goev z2 l2 l1)]) (rest := []) ⟨hx, hb, hml, hown, hts⟩ (metX0_takeOut l D H.size x1 w1 z1 l1 g1 a1 s1 (goev z2 l2 l1) m4 (gt_ne m5)) (cwV 1 hts gX1_passBetween_X0_takeOut rfl rfl rfl (by decide +kernel) ⟨Nat.le_of_ble_eq_true rfl, Nat.le_of_ble_eq_true rfl⟩) (pmV 0 0 RX0 TX0 6 rfl rfl (vj_oP (k := 0) rfl hP) (hK.sub [] rfl) (vj_oD (k := 0) rfl hD)) rfl rfl hl.1 rfl (lv_room (Nat.le_of_ble_eq_true rfl)) dX1_passBetween_70 ⟨Nat.le_of_ble_eq_true rfl, Nat.le_of_ble_eq_true rfl⟩) rfl hP hD hS hA (fun H locs hP hD hS => ?_)
    have ek : tkE w1 z1 l1 g1 a1 s1 (goev z2 l2 l1) = EB w1 z1 (FP.dsub l1 (goev z2 l2 l1)) g1 a1 s1 := by unfold tkE; rw [if_pos m5]
    rw [ek] at hP hD
    have hP : va_P D vwCl [(x1, .inr (0, [.int w1, .int z1, .double (FP.dsub l1 (goev z2 l2 l1)), .double g1, .double a1, .double s1])), (x2, .inr (0, [.int w2, .int z2, .double (FP.dadd l2 (goev z2 l2 l1)), .double (mixv l2 g2 (goev z2 l2 l1) g1), .double (mixv l2 a2 (goev z2 l2 l1) a1), .double (mixv l2 s2 (goev z2 l2 l1) s1)]))] H := hP
    have hD : va_D A [(x1, .inr (0, [.int w1, .int z1, .double (FP.dsub l1 (goev z2 l2 l1)), .double g1, .double a1, .double s1])), (x2, .inr (0, [.int w2, .int z2, .double (FP.dadd l2 (goev z2 l2 l1)), .double (mixv l2 g2 (goev z2 l2 l1) g1), .double (mixv l2 a2 (goev z2 l2 l1) a1), .double (mixv l2 s2 (goev z2 l2 l1) s1)]))] := hD
    refine lv_dload hx hb dX1_passBetween_73 (lv_at hl 0 rfl) ?_
    exact W.dret hx hb hr (fun t ht hW => ⟨⟨_, (), rfl, rfl, by rw [ht]; exact hP, va_K.moved hW.alike hK, hD⟩, hS.F ht⟩) hS.2.2 dX1_passBetween_75
set_option maxHeartbeats 4000000 in
set_option maxRecDepth 100000 in
/-- .. where nothing goes -/
theorem metX1_passBetween_n (l : Launch) (D : va_G) (sz : Nat) (x1 x2 : Nat) (w1 z1 : Int32) (l1 g1 a1 s1 : UInt64) (w2 z2 : Int32) (l2 g2 a2 s2 : UInt64) (hp : paok z2 l1 g1 a1 s1 l2 g2 a2 s2) (hg : FP.dcmp (goev z2 l2 l1) 0 ≠ some .gt) : Met l yX1_passBetween wsX1_passBetween { frames := 2, cells := 0, slots := 0, locals := 57 } (Pm D [] [.ref x1, .ref x2] ([(x1, .inr (0, [.int w1, .int z1, .double l1, .double g1, .double a1, .double s1])), (x2, .inr (0, [.int w2, .int z2, .double l2, .double g2, .double a2, .double s2]))]) sz) (va_Qd (fun (r : UInt64) (_ : Unit) => r = 0) (Bm D [] (va_A ([(x1, .inr (0, [.int w1, .int z1, .double l1, .double g1, .double a1, .double s1])), (x2, .inr (0, [.int w2, .int z2, .double l2, .double g2, .double a2, .double s2]))]) sz) ([(x1, .inr (0, [.int w1, .int z1, .double l1, .double g1, .double a1, .double s1])), (x2, .inr (0, [.int w2, .int z2, .double l2, .double g2, .double a2, .double s2]))])) (va_A ([(x1, .inr (0, [.int w1, .int z1, .double l1, .double g1, .double a1, .double s1])), (x2, .inr (0, [.int w2, .int z2, .double l2, .double g2, .double a2, .double s2]))]) sz)) 0 0 (va_A ([(x1, .inr (0, [.int w1, .int z1, .double l1, .double g1, .double a1, .double s1])), (x2, .inr (0, [.int w2, .int z2, .double l2, .double g2, .double a2, .double s2]))]) sz) := by
  refine Met.ofW (cc := cX1_passBetween) (maxL := 8) (ret := (some .double)) (by decide) rfl ?_
  intro p e s m args below meth c s₁ B hml hv
  obtain ⟨rfl, hsz, hP, hK, hD0⟩ := hv
  have hx := B.exec
  have hb := B.bytes
  have hr := B.returns
  have hts := atoms_spec (ws := wsX1_passBetween) B.pre
  have hown : s.vm.findClass RX1 = some m.cls := findClass_of_methodNamed B.named
  have hlocks := B.notSynchronized
  subst hsz
  have hD := hD0.self (sz := s.heap.size)
  generalize hAe : va_A ([(x1, .inr (0, [.int w1, .int z1, .double l1, .double g1, .double a1, .double s1])), (x2, .inr (0, [.int w2, .int z2, .double l2, .double g2, .double a2, .double s2]))]) s.heap.size = A at hD ⊢
  have hA : ∀ q : Nat, s.heap.size ≤ q → A q := fun q h => by rw [← hAe]; exact Or.inr h
  refine kW_H (fun H hH => ?_)
  have hP : va_P D vwCl ([(x1, .inr (0, [.int w1, .int z1, .double l1, .double g1, .double a1, .double s1])), (x2, .inr (0, [.int w2, .int z2, .double l2, .double g2, .double a2, .double s2]))]) H := by rw [hH]; exact hP
  have hS : va_S A s.heap H [] := by rw [hH]; exact va_S.rf
  have hl := lv_entry ([.ref x1, .ref x2]) (n := 8) (Nat.le_of_ble_eq_true rfl)
  rw [lg_entry_eq]
  generalize (lg_sl ([.ref x1, .ref x2]) ++ List.replicate (8 - (lg_sl ([.ref x1, .ref x2])).length) Slot.unset).toArray = ls at hl ⊢
  have hl : lv_has ls 8 [(0, .ref x1), (1, .ref x2)] := hl
  obtain ⟨q1, q2, q3, q4, q5, q6⟩ := hp
  refine lv_ldc2d hx hb hown (hts (.constantDouble RX1 62 4606281698874543309) (by decide +kernel)) dX1_passBetween_0 ?_
  refine lv_aload_n hx hb dX1_passBetween_3 rfl (lv_at hl 1 rfl) ?_
  refine va_get (D := D) (ci := 0) (v := .int z2) (C := RX0) (T := TX0) (N := 6) hx hb hts (by decide +kernel) hown hK hP (1) rfl rfl 1 (by decide) (hts (.fieldLink RX1 36 "VinegarLoft$Barrel" "size" "I") (by decide +kernel)) (fun _ h9 => h9) rfl dX1_passBetween_4 ?_
  refine lv_i2d hx hb dX1_passBetween_7 ?_
  refine lv_dmul hx hb dX1_passBetween_8 q1 ?_
  refine lv_aload_n hx hb dX1_passBetween_9 rfl (lv_at hl 1 rfl) ?_
  refine va_get (D := D) (ci := 0) (v := .double l2) (C := RX0) (T := TX0) (N := 6) hx hb hts (by decide +kernel) hown hK hP (1) rfl rfl 2 (by decide) (hts (.fieldLink RX1 49 "VinegarLoft$Barrel" "litres" "D") (by decide +kernel)) (fun _ h9 => h9) rfl dX1_passBetween_10 ?_
  refine lv_dsub hx hb dX1_passBetween_13 q2 ?_
  refine lv_dstore_n (lv' := [(2, .double (FP.dsub (FP.dmul 4606281698874543309 (FP.i2d z2)) l2)), (0, .ref x1), (1, .ref x2)]) hx hb dX1_passBetween_14 rfl hl (by decide) rfl (fun ls hl => ?_)
  refine lv_ldc2d hx hb hown (hts (.constantDouble RX1 64 4602678819172646912) (by decide +kernel)) dX1_passBetween_15 ?_
  refine lv_aload_n hx hb dX1_passBetween_18 rfl (lv_at hl 1 rfl) ?_
  refine va_get (D := D) (ci := 0) (v := .double l1) (C := RX0) (T := TX0) (N := 6) hx hb hts (by decide +kernel) hown hK hP (0) rfl rfl 2 (by decide) (hts (.fieldLink RX1 49 "VinegarLoft$Barrel" "litres" "D") (by decide +kernel)) (fun _ h9 => h9) rfl dX1_passBetween_19 ?_
  refine lv_dmul hx hb dX1_passBetween_22 q3 ?_
  refine lv_dstore (lv' := [(4, .double (FP.dmul 4602678819172646912 l1)), (2, .double (FP.dsub (FP.dmul 4606281698874543309 (FP.i2d z2)) l2)), (0, .ref x1), (1, .ref x2)]) hx hb dX1_passBetween_23 hl (by decide) rfl (fun ls hl => ?_)
  refine lv_dload_n hx hb dX1_passBetween_25 rfl (lv_at hl 1 rfl) ?_
  refine lv_dload hx hb dX1_passBetween_26 (lv_at hl 0 rfl) ?_
  refine kd_ge (tgt := 36) hx hb dX1_passBetween_28 dX1_passBetween_29 (by decide) q4 (fun c28 => ?_) (fun c28 => ?_)
  · refine lv_dload hx hb dX1_passBetween_36 (lv_at hl 0 rfl) ?_
    refine kd_eq (show (FP.dmul 4602678819172646912 l1) = goev z2 l2 l1 from by unfold goev lesv; rw [if_neg c28]) ?_
    refine lv_dstore (lv' := [(6, .double (goev z2 l2 l1)), (4, .double (FP.dmul 4602678819172646912 l1)), (2, .double (FP.dsub (FP.dmul 4606281698874543309 (FP.i2d z2)) l2)), (0, .ref x1), (1, .ref x2)]) hx hb dX1_passBetween_38 hl (by decide) rfl (fun ls hl => ?_)
    refine lv_dload hx hb dX1_passBetween_40 (lv_at hl 0 rfl) ?_
    refine kd_0 hx hb dX1_passBetween_42 ?_
    refine kd_gt (tgt := 49) hx hb dX1_passBetween_43 dX1_passBetween_44 (by decide) q5 (fun c43 => absurd c43 hg) (fun c43 => ?_)
    refine kd_0 hx hb dX1_passBetween_47 ?_
    exact W.dret hx hb hr (fun t ht hW => ⟨⟨_, (), rfl, rfl, by rw [ht]; exact hP, va_K.moved hW.alike hK, hD⟩, hS.F ht⟩) hS.2.2 dX1_passBetween_48
  · refine lv_dload_n hx hb dX1_passBetween_32 rfl (lv_at hl 1 rfl) ?_
    refine lv_goto (tgt := 38) hx hb dX1_passBetween_33 (by decide) ?_
    refine kd_eq (show (FP.dsub (FP.dmul 4606281698874543309 (FP.i2d z2)) l2) = goev z2 l2 l1 from by unfold goev lesv; rw [if_pos c28]) ?_
    refine lv_dstore (lv' := [(6, .double (goev z2 l2 l1)), (4, .double (FP.dmul 4602678819172646912 l1)), (2, .double (FP.dsub (FP.dmul 4606281698874543309 (FP.i2d z2)) l2)), (0, .ref x1), (1, .ref x2)]) hx hb dX1_passBetween_38 hl (by decide) rfl (fun ls hl => ?_)
    refine lv_dload hx hb dX1_passBetween_40 (lv_at hl 0 rfl) ?_
    refine kd_0 hx hb dX1_passBetween_42 ?_
    refine kd_gt (tgt := 49) hx hb dX1_passBetween_43 dX1_passBetween_44 (by decide) q5 (fun c43 => absurd c43 hg) (fun c43 => ?_)
    refine kd_0 hx hb dX1_passBetween_47 ?_
    exact W.dret hx hb hr (fun t ht hW => ⟨⟨_, (), rfl, rfl, by rw [ht]; exact hP, va_K.moved hW.alike hK, hD⟩, hS.F ht⟩) hS.2.2 dX1_passBetween_48
