/-! the reference: its calls (laid by wip/whole/prog/x3c.py) -/
/-- the bottles of a year, where the reference divides first -/
def rdM (h : Nat → UInt64) (n : Nat) (df : Int32) (q : UInt64) : Prop := ∀ b, elO h n = some b → nI b = df → vf_n64 (FP.ddiv (leB h q b) 4591870180066957722) ∧ (FP.dcmp (leB h q b) 0 ≠ some .gt → FP.d2i (FP.ddiv (leB h q b) 4591870180066957722) = 0)
def anyB (h : Nat → UInt64) : Nat → Int32
  | 0 => 0
  | k + 1 => if anyB h k = 0 then (if FP.dcmp (h k) 0 = some .gt then 1 else 0) else 1
def mnM (f : Nat) (h : Nat → UInt64) (n : Nat) : Prop := suLok h n ∧ suPok f h n ∧ (anyB h n = 0 ↔ FP.dcmp (suL h n) 0 ≠ some .gt) ∧ (anyB h n ≠ 0 → vf_n64 (FP.ddiv (suP f h n) (suL h n)))
def thA (zs : Nat → Int32) (n : Nat) (x z : Int32) : Int32 := if ((x < 0 ∨ 3 < x) ∨ (z < 10 ∨ 100 < z) ∨ (nI n ≠ 0 ∧ zs (n - 1) ≤ z)) then 1 else if nI n = 8 then 2 else 0
def thR (lo hi x : Int32) : Int32 := if x < lo ∨ hi < x then 1 else 0
theorem i32_add0 (x : Int32) : x + 0 = x := Int32.add_zero x

theorem of_dn {a b : Int32} (h : ¬ a ≠ b) : a = b := Classical.byContradiction h
theorem encO_some {o : Option Nat} (h : ¬ encO o < 0) : ∃ b, o = some b := by
  cases o with
  | none => exact absurd (by decide) h
  | some b => exact ⟨b, rfl⟩

set_option maxHeartbeats 4000000 in
set_option maxRecDepth 100000 in
theorem metX3_oldestNow (l : Launch) (D : va_G) (y aw az ah ak : Nat) (cI cD : ClassId) (n : Nat) (hn : n ≤ 8) (wm ys : Int32) (q : UInt64) (qf yo ri ol th : Int32) (wd zs : Nat → Int32) (h kp : Nat → UInt64) (hN : NNr n h) : Met l yX3_oldestNow wsX3_oldestNow { frames := 1, cells := 0, slots := 0, locals := 21 } (Pr D [(cI, .int), (cD, .double)] [.ref y] (modW y aw az ah ak cI cD (nI n) wm ys q qf yo ri ol th wd zs h kp)) (vp_Si (fun r : Int32 => r = encO (elO h n))) 0 0 (fun _ => False) := by
  refine Met.ofW (cc := cX3_oldestNow) (maxL := 3) (ret := (some .int)) (by decide) rfl ?_
  intro p e s m args below meth c s₁ B hml hv
  obtain ⟨rfl, hP, hK⟩ := hv
  have hx := B.exec
  have hb := B.bytes
  have hr := B.returns
  have hts := atoms_spec (ws := wsX3_oldestNow) B.pre
  have hown : s.vm.findClass RX3 = some m.cls := findClass_of_methodNamed B.named
  have hlocks := B.notSynchronized
  have hl := lv_entry ([.ref y]) (n := 3) (Nat.le_of_ble_eq_true rfl)
  rw [lg_entry_eq]
  generalize (lg_sl ([.ref y]) ++ List.replicate (3 - (lg_sl ([.ref y])).length) Slot.unset).toArray = ls at hl ⊢
  have hl : lv_has ls 3 [(0, .ref y)] := hl
  refine lv_iconst (v := (-1)) hx hb dX3_oldestNow_0 (by decide) ?_
  refine lv_istore_n (lv' := [(1, .int (-1)), (0, .ref y)]) hx hb dX3_oldestNow_1 rfl hl (by decide) rfl (fun ls hl => ?_)
  refine lv_iconst (v := 0) hx hb dX3_oldestNow_2 (by decide) ?_
  refine lv_istore_n (lv' := [(2, .int 0), (1, .int (-1)), (0, .ref y)]) hx hb dX3_oldestNow_3 rfl hl (by decide) rfl (fun ls hl => ?_)
  refine kW_upR (n) (fun i ls => lv_has ls 3 [(2, .int (nI i)), (1, .int (encO (elO h i))), (0, .ref y)]) (fun i ls hi hl ih => ?_) (fun ls hl => ?_) (lv_sub hl [0, 1, 2] (rfl))
  · refine lv_iload_n hx hb dX3_oldestNow_4 rfl (lv_at hl 0 rfl) ?_
    refine lv_aload_n hx hb dX3_oldestNow_5 rfl (lv_at hl 2 rfl) ?_
    refine va_get (D := D) (ci := 3) (v := .int (nI n)) (C := RX3) (T := TX3) (N := 13) hx hb hts (by decide +kernel) hown hK hP (0) rfl rfl 4 (by decide) (hts (.fieldLink RX3 33 "VinegarLoftModel" "many" "I") (by decide +kernel)) (fun _ h9 => h9) rfl dX3_oldestNow_6 ?_
    refine lv_icmp_ge (tgt := 58) hx hb dX3_oldestNow_9 (by decide) (fun c9 => absurd c9 (nI_ge hi (by omega))) (fun c9 => ?_)
    refine lv_aload_n hx hb dX3_oldestNow_12 rfl (lv_at hl 2 rfl) ?_
    refine lv_iload_n hx hb dX3_oldestNow_13 rfl (lv_at hl 0 rfl) ?_
    refine kr_i (W.runV (As := [.int (nI i)]) (rest := []) ⟨hx, hb, hml, hown, hts⟩ (metX3_isEmpty l D y aw az ah ak cI cD n (by omega) wm ys q qf yo ri ol th wd zs h kp i (by omega) (nn_ne0 (hN i hi).1)) (cwV 1 hts gX3_oldestNow_X3_isEmpty rfl rfl rfl (by decide +kernel) ⟨Nat.le_of_ble_eq_true rfl, Nat.le_of_ble_eq_true rfl⟩) (prV 3 0 RX3 TX3 13 rfl rfl hP hK) rfl rfl hl.1 rfl (lv_room (Nat.le_of_ble_eq_true rfl)) dX3_oldestNow_14 ⟨Nat.le_of_ble_eq_true rfl, Nat.le_of_ble_eq_true rfl⟩) ?_
    refine lv_if_ne (tgt := 50) hx hb dX3_oldestNow_17 (by decide) (fun c17 => ?_) (fun c17 => ?_)
    · refine lv_iload_n hx hb dX3_oldestNow_50 rfl (lv_at hl 1 rfl) ?_
      refine lv_istore_n (lv' := [(1, .int (encO (elO h i))), (2, .int (nI i)), (0, .ref y)]) hx hb dX3_oldestNow_51 rfl hl (by decide) rfl (fun ls hl => ?_)
      refine lv_iinc (v := nI (i + 1)) (lv' := [(2, .int (nI (i + 1))), (1, .int (encO (elO h i))), (0, .ref y)]) hx hb dX3_oldestNow_52 hl (k := 1) rfl (nI_1 i) (by decide) rfl (fun ls hl => ?_)
      refine lv_goto (tgt := 4) hx hb dX3_oldestNow_55 (by decide) ?_
      have e1 : elO h (i + 1) = elO h i := elO_e (fun h9 => c17 (emp0.mpr h9))
      exact ih ls (lv_sub hl [0, 1, 2] (by rw [e1]; rfl))
    · refine lv_iload_n hx hb dX3_oldestNow_20 rfl (lv_at hl 1 rfl) ?_
      refine lv_if_lt (tgt := 46) hx hb dX3_oldestNow_21 (by decide) (fun c21 => ?_) (fun c21 => ?_)
      · refine lv_iload_n hx hb dX3_oldestNow_46 rfl (lv_at hl 0 rfl) ?_
        refine lv_goto (tgt := 51) hx hb dX3_oldestNow_47 (by decide) ?_
        refine lv_istore_n (lv' := [(1, .int (nI i)), (2, .int (nI i)), (0, .ref y)]) hx hb dX3_oldestNow_51 rfl hl (by decide) rfl (fun ls hl => ?_)
        refine lv_iinc (v := nI (i + 1)) (lv' := [(2, .int (nI (i + 1))), (1, .int (nI i)), (0, .ref y)]) hx hb dX3_oldestNow_52 hl (k := 1) rfl (nI_1 i) (by decide) rfl (fun ls hl => ?_)
        refine lv_goto (tgt := 4) hx hb dX3_oldestNow_55 (by decide) ?_
        have e1 : elO h (i + 1) = some i := elO_s (emp0.mp c17) (fun b9 hb9 => nomatch ((encO_neg (fun b8 h8 => (by have := elO_lt h i b8 h8; omega))).mp c21).symm.trans hb9)
        exact ih ls (lv_sub hl [0, 1, 2] (by rw [e1]; rfl))
      · obtain ⟨b, ho⟩ := encO_some c21
        have hbi : b < i := elO_lt h i b ho
        refine lv_aload_n hx hb dX3_oldestNow_24 rfl (lv_at hl 2 rfl) ?_
        refine va_get (D := D) (ci := 3) (v := .ref ah) (C := RX3) (T := TX3) (N := 13) hx hb hts (by decide +kernel) hown hK hP (0) rfl rfl 2 (by decide) (hts (.fieldLink RX3 16 "VinegarLoftModel" "holds" "[D") (by decide +kernel)) (fun _ h9 => h9) rfl dX3_oldestNow_25 ?_
        refine lv_bipush (v := 8) hx hb dX3_oldestNow_28 (by decide) ?_
        refine lv_iload_n hx hb dX3_oldestNow_30 rfl (lv_at hl 0 rfl) ?_
        refine lv_iadd hx hb dX3_oldestNow_31 ?_
        refine kx_dald hx hb hK hP 3 1 rfl rfl (j := 8 + i) (ixc 8 i) (show 8 + i < 32 by omega) (by decide) dX3_oldestNow_32 ?_
        refine lv_aload_n hx hb dX3_oldestNow_33 rfl (lv_at hl 2 rfl) ?_
        refine va_get (D := D) (ci := 3) (v := .ref ah) (C := RX3) (T := TX3) (N := 13) hx hb hts (by decide +kernel) hown hK hP (0) rfl rfl 2 (by decide) (hts (.fieldLink RX3 16 "VinegarLoftModel" "holds" "[D") (by decide +kernel)) (fun _ h9 => h9) rfl dX3_oldestNow_34 ?_
        refine lv_bipush (v := 8) hx hb dX3_oldestNow_37 (by decide) ?_
        refine lv_iload_n hx hb dX3_oldestNow_39 rfl (lv_at hl 1 rfl) ?_
        refine lv_iadd hx hb dX3_oldestNow_40 ?_
        refine kx_dald hx hb hK hP 3 1 rfl rfl (j := 8 + b) (by rw [ho]; exact ixc 8 b) (show 8 + b < 32 by omega) (by decide) dX3_oldestNow_41 ?_
        refine kd_lt (tgt := 50) hx hb dX3_oldestNow_42 dX3_oldestNow_43 (by decide) (cmp_ne (hN i hi).2.ne (hN b (by omega)).2.ne) (fun c42 => ?_) (fun c42 => ?_)
        · refine lv_iload_n hx hb dX3_oldestNow_50 rfl (lv_at hl 1 rfl) ?_
          refine lv_istore_n (lv' := [(1, .int (encO (elO h i))), (2, .int (nI i)), (0, .ref y)]) hx hb dX3_oldestNow_51 rfl hl (by decide) rfl (fun ls hl => ?_)
          refine lv_iinc (v := nI (i + 1)) (lv' := [(2, .int (nI (i + 1))), (1, .int (encO (elO h i))), (0, .ref y)]) hx hb dX3_oldestNow_52 hl (k := 1) rfl (nI_1 i) (by decide) rfl (fun ls hl => ?_)
          refine lv_goto (tgt := 4) hx hb dX3_oldestNow_55 (by decide) ?_
          have e1 : elO h (i + 1) = elO h i := elO_k ho c42
          exact ih ls (lv_sub hl [0, 1, 2] (by rw [e1]; rfl))
        · refine lv_iload_n hx hb dX3_oldestNow_46 rfl (lv_at hl 0 rfl) ?_
          refine lv_goto (tgt := 51) hx hb dX3_oldestNow_47 (by decide) ?_
          refine lv_istore_n (lv' := [(1, .int (nI i)), (2, .int (nI i)), (0, .ref y)]) hx hb dX3_oldestNow_51 rfl hl (by decide) rfl (fun ls hl => ?_)
          refine lv_iinc (v := nI (i + 1)) (lv' := [(2, .int (nI (i + 1))), (1, .int (nI i)), (0, .ref y)]) hx hb dX3_oldestNow_52 hl (k := 1) rfl (nI_1 i) (by decide) rfl (fun ls hl => ?_)
          refine lv_goto (tgt := 4) hx hb dX3_oldestNow_55 (by decide) ?_
          have e1 : elO h (i + 1) = some i := elO_s (emp0.mp c17) (fun b9 hb9 => by rw [ho] at hb9; cases hb9; exact c42)
          exact ih ls (lv_sub hl [0, 1, 2] (by rw [e1]; rfl))
  · refine lv_iload_n hx hb dX3_oldestNow_4 rfl (lv_at hl 0 rfl) ?_
    refine lv_aload_n hx hb dX3_oldestNow_5 rfl (lv_at hl 2 rfl) ?_
    refine va_get (D := D) (ci := 3) (v := .int (nI n)) (C := RX3) (T := TX3) (N := 13) hx hb hts (by decide +kernel) hown hK hP (0) rfl rfl 4 (by decide) (hts (.fieldLink RX3 33 "VinegarLoftModel" "many" "I") (by decide +kernel)) (fun _ h9 => h9) rfl dX3_oldestNow_6 ?_
    refine lv_icmp_ge (tgt := 58) hx hb dX3_oldestNow_9 (by decide) (fun c9 => ?_) (fun c9 => absurd (nI_le (Nat.le_refl n) (by omega)) c9)
    refine lv_iload_n hx hb dX3_oldestNow_58 rfl (lv_at hl 1 rfl) ?_
    exact W.iret hx hb hr (fun t ht hW => ⟨_, rfl, rfl, ht⟩) (fun q hq => absurd hq List.not_mem_nil) dX3_oldestNow_59

theorem lt_of_nge {x : Int32} (h : ¬ 0 ≤ x) : x < 0 := by
  rw [Int32.le_iff_toInt_le] at h
  rw [Int32.lt_iff_toInt_lt]
  omega
theorem ge_of {x : Int32} (h : 0 ≤ x) : ¬ x < 0 := by
  rw [Int32.le_iff_toInt_le] at h
  rw [Int32.lt_iff_toInt_lt]
  omega

set_option maxHeartbeats 4000000 in
set_option maxRecDepth 100000 in
theorem metX3_passes (l : Launch) (D : va_G) (sz : Nat) (y aw az ah ak : Nat) (cI cD : ClassId) (n : Nat) (hn : n ≤ 8) (wm ys : Int32) (q : UInt64) (qf yo ri ol th : Int32) (wd zs : Nat → Int32) (h kp : Nat → UInt64) (hdr : drok wm) (hok : agok wd (drv wm) h n) (hnn : agNN wd (drv wm) h n) (hN : NNr n (agH wd (drv wm) h n)) (hq : ∀ b, b < n → vf_n64 (FP.dmul 4598175219545276416 ((agH wd (drv wm) h n) b))) : Met l yX3_passes wsX3_passes { frames := 2, cells := 0, slots := 0, locals := 50 } (Pm D [(cI, .int), (cD, .double)] [.ref y] (modW y aw az ah ak cI cD (nI n) wm ys q qf yo ri ol th wd zs h kp) sz) (va_Qd (fun (r : UInt64) (_ : Unit) => r = agS wd (drv wm) h n) (Bm D [(cI, .int), (cD, .double)] (va_A (modW y aw az ah ak cI cD (nI n) wm ys q qf yo ri ol th wd zs h kp) sz) (modW y aw az ah ak cI cD (nI n) wm (ys + 1) (quv (agH wd (drv wm) h n) (elO (agH wd (drv wm) h n) n)) (encO (elO (agH wd (drv wm) h n) n)) yo ri ol th wd zs (agH wd (drv wm) h n) kp)) (va_A (modW y aw az ah ak cI cD (nI n) wm ys q qf yo ri ol th wd zs h kp) sz)) 0 0 (va_A (modW y aw az ah ak cI cD (nI n) wm ys q qf yo ri ol th wd zs h kp) sz) := by
  refine Met.ofW (cc := cX3_passes) (maxL := 4) (ret := (some .double)) (by decide) rfl ?_
  intro p e s m args below meth c s₁ B hml hv
  obtain ⟨rfl, hsz, hP, hK, hD0⟩ := hv
  have hx := B.exec
  have hb := B.bytes
  have hr := B.returns
  have hts := atoms_spec (ws := wsX3_passes) B.pre
  have hown : s.vm.findClass RX3 = some m.cls := findClass_of_methodNamed B.named
  have hlocks := B.notSynchronized
  subst hsz
  have hD := hD0.self (sz := s.heap.size)
  generalize hAe : va_A (modW y aw az ah ak cI cD (nI n) wm ys q qf yo ri ol th wd zs h kp) s.heap.size = A at hD ⊢
  have hA : ∀ q : Nat, s.heap.size ≤ q → A q := fun q h => by rw [← hAe]; exact Or.inr h
  refine kW_H (fun H hH => ?_)
  have hP : va_P D vwCl (modW y aw az ah ak cI cD (nI n) wm ys q qf yo ri ol th wd zs h kp) H := by rw [hH]; exact hP
  have hS : va_S A s.heap H [] := by rw [hH]; exact va_S.rf
  have hl := lv_entry ([.ref y]) (n := 4) (Nat.le_of_ble_eq_true rfl)
  rw [lg_entry_eq]
  generalize (lg_sl ([.ref y]) ++ List.replicate (4 - (lg_sl ([.ref y])).length) Slot.unset).toArray = ls at hl ⊢
  have hl : lv_has ls 4 [(0, .ref y)] := hl
  refine kd_0 hx hb dX3_passes_0 ?_
  refine lv_dstore_n (lv' := [(1, .double 0), (0, .ref y)]) hx hb dX3_passes_1 rfl hl (by decide) rfl (fun ls hl => ?_)
  refine lv_iconst (v := 0) hx hb dX3_passes_2 (by decide) ?_
  refine lv_istore_n (lv' := [(3, .int 0), (1, .double 0), (0, .ref y)]) hx hb dX3_passes_3 rfl hl (by decide) rfl (fun ls hl => ?_)
  refine kW_up (n) (fun i H locs ls => va_P D vwCl (modW y aw az ah ak cI cD (nI n) wm ys q qf yo ri ol th wd zs (agH wd (drv wm) h i) kp) H ∧ va_D A (modW y aw az ah ak cI cD (nI n) wm ys q qf yo ri ol th wd zs (agH wd (drv wm) h i) kp) ∧ va_S A s.heap H locs ∧ lv_has ls 4 [(3, .int (nI i)), (1, .double (agS wd (drv wm) h i)), (0, .ref y)]) (fun i H locs ls hi hI ih => ?_) (fun H locs ls hI => ?_) ⟨hP, hD, hS, lv_sub hl [0, 1, 2] (rfl)⟩
  · obtain ⟨hP, hD, hS, hl⟩ := hI
    refine lv_iload_n hx hb dX3_passes_4 rfl (lv_at hl 0 rfl) ?_
    refine lv_aload_n hx hb dX3_passes_5 rfl (lv_at hl 2 rfl) ?_
    refine va_get (D := D) (ci := 3) (v := .int (nI n)) (C := RX3) (T := TX3) (N := 13) hx hb hts (by decide +kernel) hown hK hP (0) rfl rfl 4 (by decide) (hts (.fieldLink RX3 33 "VinegarLoftModel" "many" "I") (by decide +kernel)) (fun _ h9 => h9) rfl dX3_passes_6 ?_
    refine lv_icmp_ge (tgt := 34) hx hb dX3_passes_9 (by decide) (fun c9 => absurd c9 (nI_ge hi (by omega))) (fun c9 => ?_)
    refine lv_aload_n hx hb dX3_passes_12 rfl (lv_at hl 2 rfl) ?_
    refine lv_iload_n hx hb dX3_passes_13 rfl (lv_at hl 0 rfl) ?_
    refine kr_i (W.runV (As := [.int (nI i)]) (rest := []) ⟨hx, hb, hml, hown, hts⟩ (metX3_isEmpty l D y aw az ah ak cI cD n (by omega) wm ys q qf yo ri ol th wd zs (agH wd (drv wm) h i) kp i (by omega) (hok i hi).1) (cwV 1 hts gX3_passes_X3_isEmpty rfl rfl rfl (by decide +kernel) ⟨Nat.le_of_ble_eq_true rfl, Nat.le_of_ble_eq_true rfl⟩) (prV 3 0 RX3 TX3 13 rfl rfl hP hK) rfl rfl hl.1 rfl (lv_room (Nat.le_of_ble_eq_true rfl)) dX3_passes_14 ⟨Nat.le_of_ble_eq_true rfl, Nat.le_of_ble_eq_true rfl⟩) ?_
    refine lv_if_ne (tgt := 28) hx hb dX3_passes_17 (by decide) (fun c17 => ?_) (fun c17 => ?_)
    · refine lv_iinc (v := nI (i + 1)) (lv' := [(3, .int (nI (i + 1))), (1, .double (agS wd (drv wm) h i)), (0, .ref y)]) hx hb dX3_passes_28 hl (k := 0) rfl (nI_1 i) (by decide) rfl (fun ls hl => ?_)
      refine lv_goto (tgt := 4) hx hb dX3_passes_31 (by decide) ?_
      have e1 : agH wd (drv wm) h (i + 1) = agH wd (drv wm) h i := by show yrH _ _ _ _ = _; unfold yrH; rw [if_neg (fun h9 => c17 (emp0.mpr h9))]
      have e2 : agS wd (drv wm) h (i + 1) = agS wd (drv wm) h i := by show yrS _ _ _ _ _ = _; unfold yrS; rw [if_neg (fun h9 => c17 (emp0.mpr h9))]
      rw [← e1] at hP hD
      rw [← e2] at hl
      exact ih H locs ls ⟨hP, hD, hS, lv_sub hl [0, 1, 2] (rfl)⟩
    · refine lv_dload_n hx hb dX3_passes_20 rfl (lv_at hl 1 rfl) ?_
      refine lv_aload_n hx hb dX3_passes_21 rfl (lv_at hl 2 rfl) ?_
      refine lv_iload_n hx hb dX3_passes_22 rfl (lv_at hl 0 rfl) ?_
      have gi : FP.dcmp (agH wd (drv wm) h i i) 0 = some .gt := emp0.mp c17
      obtain ⟨g1, g2⟩ := (hok i hi).2 gi
      refine kw_d (va_runV (As := [.int (nI i)]) (rest := [.double (agS wd (drv wm) h i)]) ⟨hx, hb, hml, hown, hts⟩ (metX3_ages l D H.size y aw az ah ak cI cD n (by omega) wm ys q qf yo ri ol th wd zs (agH wd (drv wm) h i) kp i (by omega) gi hdr g1 (hnn i hi gi)) (cwV 1 hts gX3_passes_X3_ages rfl rfl rfl (by decide +kernel) ⟨Nat.le_of_ble_eq_true rfl, Nat.le_of_ble_eq_true rfl⟩) (pmV 3 0 RX3 TX3 13 rfl rfl hP hK hD) rfl rfl hl.1 rfl (lv_room (Nat.le_of_ble_eq_true rfl)) dX3_passes_23 ⟨Nat.le_of_ble_eq_true rfl, Nat.le_of_ble_eq_true rfl⟩) hP hD hS hA (fun H locs hP hD hS => ?_)
      have hP : va_P D vwCl (modW y aw az ah ak cI cD (nI n) wm ys q qf yo ri ol th wd zs (agH wd (drv wm) h (i + 1)) kp) H := hP
      have hD : va_D A (modW y aw az ah ak cI cD (nI n) wm ys q qf yo ri ol th wd zs (agH wd (drv wm) h (i + 1)) kp) := hD
      refine lv_dadd hx hb dX3_passes_26 g2 ?_
      refine lv_dstore_n (lv' := [(1, .double (FP.dadd (agS wd (drv wm) h i) (losv (wd i) (agH wd (drv wm) h i i) (drv wm)))), (3, .int (nI i)), (0, .ref y)]) hx hb dX3_passes_27 rfl hl (by decide) rfl (fun ls hl => ?_)
      refine lv_iinc (v := nI (i + 1)) (lv' := [(3, .int (nI (i + 1))), (1, .double (FP.dadd (agS wd (drv wm) h i) (losv (wd i) (agH wd (drv wm) h i i) (drv wm)))), (0, .ref y)]) hx hb dX3_passes_28 hl (k := 1) rfl (nI_1 i) (by decide) rfl (fun ls hl => ?_)
      refine lv_goto (tgt := 4) hx hb dX3_passes_31 (by decide) ?_
      have e2 : agS wd (drv wm) h (i + 1) = FP.dadd (agS wd (drv wm) h i) (losv (wd i) (agH wd (drv wm) h i i) (drv wm)) := by show yrS _ _ _ _ _ = _; unfold yrS; rw [if_pos gi]
      rw [← e2] at hl
      exact ih H locs ls ⟨hP, hD, hS, lv_sub hl [0, 1, 2] (rfl)⟩
  · obtain ⟨hP, hD, hS, hl⟩ := hI
    refine lv_iload_n hx hb dX3_passes_4 rfl (lv_at hl 0 rfl) ?_
    refine lv_aload_n hx hb dX3_passes_5 rfl (lv_at hl 2 rfl) ?_
    refine va_get (D := D) (ci := 3) (v := .int (nI n)) (C := RX3) (T := TX3) (N := 13) hx hb hts (by decide +kernel) hown hK hP (0) rfl rfl 4 (by decide) (hts (.fieldLink RX3 33 "VinegarLoftModel" "many" "I") (by decide +kernel)) (fun _ h9 => h9) rfl dX3_passes_6 ?_
    refine lv_icmp_ge (tgt := 34) hx hb dX3_passes_9 (by decide) (fun c9 => ?_) (fun c9 => absurd (nI_le (Nat.le_refl n) (by omega)) c9)
    refine lv_aload_n hx hb dX3_passes_34 rfl (lv_at hl 2 rfl) ?_
    refine lv_dup hx hb dX3_passes_35 rfl ?_
    refine va_get (D := D) (ci := 3) (v := .int ys) (C := RX3) (T := TX3) (N := 13) hx hb hts (by decide +kernel) hown hK hP (0) rfl rfl 6 (by decide) (hts (.fieldLink RX3 95 "VinegarLoftModel" "years" "I") (by decide +kernel)) (fun _ h9 => h9) rfl dX3_passes_36 ?_
    refine lv_iconst (v := 1) hx hb dX3_passes_39 (by decide) ?_
    refine lv_iadd hx hb dX3_passes_40 ?_
    refine va_put (D := D) (ci := 3) (v := .int (ys + 1)) (ty := .int) (C := RX3) (T := TX3) (N := 13) hx hb hts (by decide +kernel) tyX3 tyX3_ok nmX3 hown hK hP hD hS (0) rfl rfl 6 (by decide) (hts (.fieldLink RX3 95 "VinegarLoftModel" "years" "I") (by decide +kernel)) (fun _ h9 => h9) rfl (by decide +kernel) rfl rfl (Nat.le_of_ble_eq_true rfl) dX3_passes_41 (fun H locs hP hD hS => ?_)
    have hP : va_P D vwCl (modW y aw az ah ak cI cD (nI n) wm (ys + 1) q qf yo ri ol th wd zs (agH wd (drv wm) h n) kp) H := hP
    have hD : va_D A (modW y aw az ah ak cI cD (nI n) wm (ys + 1) q qf yo ri ol th wd zs (agH wd (drv wm) h n) kp) := hD
    refine lv_aload_n hx hb dX3_passes_44 rfl (lv_at hl 2 rfl) ?_
    refine lv_aload_n hx hb dX3_passes_45 rfl (lv_at hl 2 rfl) ?_
    refine kr_i (W.runV (As := []) (rest := [.ref y]) ⟨hx, hb, hml, hown, hts⟩ (metX3_oldestNow l D y aw az ah ak cI cD n (by omega) wm (ys + 1) q qf yo ri ol th wd zs (agH wd (drv wm) h n) kp hN) (cwV 0 hts gX3_passes_X3_oldestNow rfl rfl rfl (by decide +kernel) ⟨Nat.le_of_ble_eq_true rfl, Nat.le_of_ble_eq_true rfl⟩) (prV 3 0 RX3 TX3 13 rfl rfl hP hK) rfl rfl hl.1 rfl (lv_room (Nat.le_of_ble_eq_true rfl)) dX3_passes_46 ⟨Nat.le_of_ble_eq_true rfl, Nat.le_of_ble_eq_true rfl⟩) ?_
    refine va_put (D := D) (ci := 3) (v := .int (encO (elO (agH wd (drv wm) h n) n))) (ty := .int) (C := RX3) (T := TX3) (N := 13) hx hb hts (by decide +kernel) tyX3 tyX3_ok nmX3 hown hK hP hD hS (0) rfl rfl 8 (by decide) (hts (.fieldLink RX3 27 "VinegarLoftModel" "quotaFrom" "I") (by decide +kernel)) (fun _ h9 => h9) rfl (by decide +kernel) rfl rfl (Nat.le_of_ble_eq_true rfl) dX3_passes_49 (fun H locs hP hD hS => ?_)
    have hP : va_P D vwCl (modW y aw az ah ak cI cD (nI n) wm (ys + 1) q (encO (elO (agH wd (drv wm) h n) n)) yo ri ol th wd zs (agH wd (drv wm) h n) kp) H := hP
    have hD : va_D A (modW y aw az ah ak cI cD (nI n) wm (ys + 1) q (encO (elO (agH wd (drv wm) h n) n)) yo ri ol th wd zs (agH wd (drv wm) h n) kp) := hD
    refine lv_aload_n hx hb dX3_passes_52 rfl (lv_at hl 2 rfl) ?_
    refine lv_aload_n hx hb dX3_passes_53 rfl (lv_at hl 2 rfl) ?_
    refine va_get (D := D) (ci := 3) (v := .int (encO (elO (agH wd (drv wm) h n) n))) (C := RX3) (T := TX3) (N := 13) hx hb hts (by decide +kernel) hown hK hP (0) rfl rfl 8 (by decide) (hts (.fieldLink RX3 27 "VinegarLoftModel" "quotaFrom" "I") (by decide +kernel)) (fun _ h9 => h9) rfl dX3_passes_54 ?_
    refine lv_if_ge (tgt := 64) hx hb dX3_passes_57 (by decide) (fun c57 => ?_) (fun c57 => ?_)
    · obtain ⟨b, ho⟩ := encO_some (ge_of c57)
      have hbn : b < n := elO_lt _ n b ho
      refine lv_ldc2d hx hb hown (hts (.constantDouble RX3 102 4598175219545276416) (by decide +kernel)) dX3_passes_64 ?_
      refine lv_aload_n hx hb dX3_passes_67 rfl (lv_at hl 2 rfl) ?_
      refine va_get (D := D) (ci := 3) (v := .ref ah) (C := RX3) (T := TX3) (N := 13) hx hb hts (by decide +kernel) hown hK hP (0) rfl rfl 2 (by decide) (hts (.fieldLink RX3 16 "VinegarLoftModel" "holds" "[D") (by decide +kernel)) (fun _ h9 => h9) rfl dX3_passes_68 ?_
      refine lv_iconst (v := 0) hx hb dX3_passes_71 (by decide) ?_
      refine lv_aload_n hx hb dX3_passes_72 rfl (lv_at hl 2 rfl) ?_
      refine va_get (D := D) (ci := 3) (v := .int (encO (elO (agH wd (drv wm) h n) n))) (C := RX3) (T := TX3) (N := 13) hx hb hts (by decide +kernel) hown hK hP (0) rfl rfl 8 (by decide) (hts (.fieldLink RX3 27 "VinegarLoftModel" "quotaFrom" "I") (by decide +kernel)) (fun _ h9 => h9) rfl dX3_passes_73 ?_
      refine lv_iadd hx hb dX3_passes_76 ?_
      refine kx_dald hx hb hK hP 3 1 rfl rfl (j := b) (by rw [ho]; exact ix0 b) (show b < 32 by omega) (by decide) dX3_passes_77 ?_
      refine lv_dmul hx hb dX3_passes_78 (hq b hbn) ?_
      refine kd_eq (show (FP.dmul 4598175219545276416 ((agH wd (drv wm) h n) b)) = quv (agH wd (drv wm) h n) (elO (agH wd (drv wm) h n) n) from by rw [ho]; rfl) ?_
      refine va_put (D := D) (ci := 3) (v := .double (quv (agH wd (drv wm) h n) (elO (agH wd (drv wm) h n) n))) (ty := .double) (C := RX3) (T := TX3) (N := 13) hx hb hts (by decide +kernel) tyX3 tyX3_ok nmX3 hown hK hP hD hS (0) rfl rfl 7 (by decide) (hts (.fieldLink RX3 104 "VinegarLoftModel" "quota" "D") (by decide +kernel)) (fun _ h9 => h9) rfl (by decide +kernel) rfl rfl (Nat.le_of_ble_eq_true rfl) dX3_passes_79 (fun H locs hP hD hS => ?_)
      have hP : va_P D vwCl (modW y aw az ah ak cI cD (nI n) wm (ys + 1) (quv (agH wd (drv wm) h n) (elO (agH wd (drv wm) h n) n)) (encO (elO (agH wd (drv wm) h n) n)) yo ri ol th wd zs (agH wd (drv wm) h n) kp) H := hP
      have hD : va_D A (modW y aw az ah ak cI cD (nI n) wm (ys + 1) (quv (agH wd (drv wm) h n) (elO (agH wd (drv wm) h n) n)) (encO (elO (agH wd (drv wm) h n) n)) yo ri ol th wd zs (agH wd (drv wm) h n) kp) := hD
      refine lv_dload_n hx hb dX3_passes_82 rfl (lv_at hl 1 rfl) ?_
      exact W.dret hx hb hr (fun t ht hW => ⟨⟨_, (), rfl, rfl, by rw [ht]; exact hP, va_K.moved hW.alike hK, hD⟩, hS.F ht⟩) hS.2.2 dX3_passes_83
    · refine kd_0 hx hb dX3_passes_60 ?_
      refine lv_goto (tgt := 79) hx hb dX3_passes_61 (by decide) ?_
      refine kd_eq (show (0 : UInt64) = quv (agH wd (drv wm) h n) (elO (agH wd (drv wm) h n) n) from by rw [(encO_neg (fun b8 h8 => (by have := elO_lt _ n b8 h8; omega))).mp (lt_of_nge c57)]; rfl) ?_
      refine va_put (D := D) (ci := 3) (v := .double (quv (agH wd (drv wm) h n) (elO (agH wd (drv wm) h n) n))) (ty := .double) (C := RX3) (T := TX3) (N := 13) hx hb hts (by decide +kernel) tyX3 tyX3_ok nmX3 hown hK hP hD hS (0) rfl rfl 7 (by decide) (hts (.fieldLink RX3 104 "VinegarLoftModel" "quota" "D") (by decide +kernel)) (fun _ h9 => h9) rfl (by decide +kernel) rfl rfl (Nat.le_of_ble_eq_true rfl) dX3_passes_79 (fun H locs hP hD hS => ?_)
      have hP : va_P D vwCl (modW y aw az ah ak cI cD (nI n) wm (ys + 1) (quv (agH wd (drv wm) h n) (elO (agH wd (drv wm) h n) n)) (encO (elO (agH wd (drv wm) h n) n)) yo ri ol th wd zs (agH wd (drv wm) h n) kp) H := hP
      have hD : va_D A (modW y aw az ah ak cI cD (nI n) wm (ys + 1) (quv (agH wd (drv wm) h n) (elO (agH wd (drv wm) h n) n)) (encO (elO (agH wd (drv wm) h n) n)) yo ri ol th wd zs (agH wd (drv wm) h n) kp) := hD
      refine lv_dload_n hx hb dX3_passes_82 rfl (lv_at hl 1 rfl) ?_
      exact W.dret hx hb hr (fun t ht hW => ⟨⟨_, (), rfl, rfl, by rw [ht]; exact hP, va_K.moved hW.alike hK, hD⟩, hS.F ht⟩) hS.2.2 dX3_passes_83

theorem of_do {a b : Option Ordering} (h : ¬ a ≠ b) : a = b := Classical.byContradiction h

set_option maxHeartbeats 4000000 in
set_option maxRecDepth 100000 in
theorem metX3_bottlesNow (l : Launch) (D : va_G) (y aw az ah ak : Nat) (cI cD : ClassId) (n : Nat) (hn : n ≤ 8) (wm ys : Int32) (q : UInt64) (qf yo ri ol th : Int32) (wd zs : Nat → Int32) (h kp : Nat → UInt64) (hN : NNr n h) (hr9 : rdok h n q) (hr8 : rdM h n qf q) : Met l yX3_bottlesNow wsX3_bottlesNow { frames := 2, cells := 0, slots := 0, locals := 43 } (Pr D [(cI, .int), (cD, .double)] [.ref y] (modW y aw az ah ak cI cD (nI n) wm ys q qf yo ri ol th wd zs h kp)) (vp_Si (fun r : Int32 => r = rdv h n qf q)) 0 0 (fun _ => False) := by
  refine Met.ofW (cc := cX3_bottlesNow) (maxL := 4) (ret := (some .int)) (by decide) rfl ?_
  intro p e s m args below meth c s₁ B hml hv
  obtain ⟨rfl, hP, hK⟩ := hv
  have hx := B.exec
  have hb := B.bytes
  have hr := B.returns
  have hts := atoms_spec (ws := wsX3_bottlesNow) B.pre
  have hown : s.vm.findClass RX3 = some m.cls := findClass_of_methodNamed B.named
  have hlocks := B.notSynchronized
  have hl := lv_entry ([.ref y]) (n := 4) (Nat.le_of_ble_eq_true rfl)
  rw [lg_entry_eq]
  generalize (lg_sl ([.ref y]) ++ List.replicate (4 - (lg_sl ([.ref y])).length) Slot.unset).toArray = ls at hl ⊢
  have hl : lv_has ls 4 [(0, .ref y)] := hl
  refine lv_aload_n hx hb dX3_bottlesNow_0 rfl (lv_at hl 0 rfl) ?_
  refine kr_i (W.runV (As := []) (rest := []) ⟨hx, hb, hml, hown, hts⟩ (metX3_oldestNow l D y aw az ah ak cI cD n (by omega) wm ys q qf yo ri ol th wd zs h kp hN) (cwV 0 hts gX3_bottlesNow_X3_oldestNow rfl rfl rfl (by decide +kernel) ⟨Nat.le_of_ble_eq_true rfl, Nat.le_of_ble_eq_true rfl⟩) (prV 3 0 RX3 TX3 13 rfl rfl hP hK) rfl rfl hl.1 rfl (lv_room (Nat.le_of_ble_eq_true rfl)) dX3_bottlesNow_1 ⟨Nat.le_of_ble_eq_true rfl, Nat.le_of_ble_eq_true rfl⟩) ?_
  rcases ho : elO h n with _ | b
  · refine lv_istore_n (lv' := [(1, .int (-1)), (0, .ref y)]) hx hb dX3_bottlesNow_4 rfl hl (by decide) rfl (fun ls hl => ?_)
    refine lv_iload_n hx hb dX3_bottlesNow_5 rfl (lv_at hl 0 rfl) ?_
    refine lv_if_lt (tgt := 49) hx hb dX3_bottlesNow_6 (by decide) (fun c6 => ?_) (fun c6 => absurd (by decide) c6)
    refine lv_iconst (v := 0) hx hb dX3_bottlesNow_49 (by decide) ?_
    exact W.iret hx hb hr (fun t ht hW => ⟨_, rfl, (rdv_none ho).symm, ht⟩) (fun q hq => absurd hq List.not_mem_nil) dX3_bottlesNow_50
  · have hbn : b < n := elO_lt h n b ho
    refine lv_istore_n (lv' := [(1, .int (nI b)), (0, .ref y)]) hx hb dX3_bottlesNow_4 rfl hl (by decide) rfl (fun ls hl => ?_)
    refine lv_iload_n hx hb dX3_bottlesNow_5 rfl (lv_at hl 0 rfl) ?_
    refine lv_if_lt (tgt := 49) hx hb dX3_bottlesNow_6 (by decide) (fun c6 => absurd c6 (nI_pos (by omega))) (fun c6 => ?_)
    refine lv_iload_n hx hb dX3_bottlesNow_9 rfl (lv_at hl 0 rfl) ?_
    refine lv_aload_n hx hb dX3_bottlesNow_10 rfl (lv_at hl 1 rfl) ?_
    refine va_get (D := D) (ci := 3) (v := .int qf) (C := RX3) (T := TX3) (N := 13) hx hb hts (by decide +kernel) hown hK hP (0) rfl rfl 8 (by decide) (hts (.fieldLink RX3 27 "VinegarLoftModel" "quotaFrom" "I") (by decide +kernel)) (fun _ h9 => h9) rfl dX3_bottlesNow_11 ?_
    refine lv_icmp_ne (tgt := 49) hx hb dX3_bottlesNow_14 (by decide) (fun c14 => ?_) (fun c14 => ?_)
    · refine lv_iconst (v := 0) hx hb dX3_bottlesNow_49 (by decide) ?_
      exact W.iret hx hb hr (fun t ht hW => ⟨_, rfl, by rw [rdv_some ho, if_neg c14], ht⟩) (fun q hq => absurd hq List.not_mem_nil) dX3_bottlesNow_50
    · obtain ⟨r1, r2, r3, r4, r5⟩ := hr9 b hbn
      obtain ⟨r6, r7⟩ := hr8 b ho c14
      refine lv_aload_n hx hb dX3_bottlesNow_17 rfl (lv_at hl 1 rfl) ?_
      refine va_get (D := D) (ci := 3) (v := .ref ah) (C := RX3) (T := TX3) (N := 13) hx hb hts (by decide +kernel) hown hK hP (0) rfl rfl 2 (by decide) (hts (.fieldLink RX3 16 "VinegarLoftModel" "holds" "[D") (by decide +kernel)) (fun _ h9 => h9) rfl dX3_bottlesNow_18 ?_
      refine lv_bipush (v := 8) hx hb dX3_bottlesNow_21 (by decide) ?_
      refine lv_iload_n hx hb dX3_bottlesNow_23 rfl (lv_at hl 0 rfl) ?_
      refine lv_iadd hx hb dX3_bottlesNow_24 ?_
      refine kx_dald hx hb hK hP 3 1 rfl rfl (j := 8 + b) (ixc 8 b) (show 8 + b < 32 by omega) (by decide) dX3_bottlesNow_25 ?_
      refine lv_ldc2d hx hb hown (hts (.constantDouble RX3 86 4622945017495814144) (by decide +kernel)) dX3_bottlesNow_26 ?_
      refine kd_lt (tgt := 49) hx hb dX3_bottlesNow_29 dX3_bottlesNow_30 (by decide) r1 (fun c29 => ?_) (fun c29 => ?_)
      · refine lv_iconst (v := 0) hx hb dX3_bottlesNow_49 (by decide) ?_
        exact W.iret hx hb hr (fun t ht hW => ⟨_, rfl, by rw [rdv_some ho, if_pos c14, if_pos (Or.inl c29)], ht⟩) (fun q hq => absurd hq List.not_mem_nil) dX3_bottlesNow_50
      · refine lv_aload_n hx hb dX3_bottlesNow_33 rfl (lv_at hl 1 rfl) ?_
        refine va_get (D := D) (ci := 3) (v := .ref ah) (C := RX3) (T := TX3) (N := 13) hx hb hts (by decide +kernel) hown hK hP (0) rfl rfl 2 (by decide) (hts (.fieldLink RX3 16 "VinegarLoftModel" "holds" "[D") (by decide +kernel)) (fun _ h9 => h9) rfl dX3_bottlesNow_34 ?_
        refine lv_bipush (v := 24) hx hb dX3_bottlesNow_37 (by decide) ?_
        refine lv_iload_n hx hb dX3_bottlesNow_39 rfl (lv_at hl 0 rfl) ?_
        refine lv_iadd hx hb dX3_bottlesNow_40 ?_
        refine kx_dald hx hb hK hP 3 1 rfl rfl (j := 24 + b) (ixc 24 b) (show 24 + b < 32 by omega) (by decide) dX3_bottlesNow_41 ?_
        refine lv_ldc2d hx hb hown (hts (.constantDouble RX3 108 4627730092099895296) (by decide +kernel)) dX3_bottlesNow_42 ?_
        refine kd_ge (tgt := 51) hx hb dX3_bottlesNow_45 dX3_bottlesNow_46 (by decide) r2 (fun c45 => ?_) (fun c45 => ?_)
        · refine lv_aload_n hx hb dX3_bottlesNow_51 rfl (lv_at hl 1 rfl) ?_
          refine va_get (D := D) (ci := 3) (v := .double q) (C := RX3) (T := TX3) (N := 13) hx hb hts (by decide +kernel) hown hK hP (0) rfl rfl 7 (by decide) (hts (.fieldLink RX3 104 "VinegarLoftModel" "quota" "D") (by decide +kernel)) (fun _ h9 => h9) rfl dX3_bottlesNow_52 ?_
          refine lv_aload_n hx hb dX3_bottlesNow_55 rfl (lv_at hl 1 rfl) ?_
          refine va_get (D := D) (ci := 3) (v := .ref ah) (C := RX3) (T := TX3) (N := 13) hx hb hts (by decide +kernel) hown hK hP (0) rfl rfl 2 (by decide) (hts (.fieldLink RX3 16 "VinegarLoftModel" "holds" "[D") (by decide +kernel)) (fun _ h9 => h9) rfl dX3_bottlesNow_56 ?_
          refine lv_iconst (v := 0) hx hb dX3_bottlesNow_59 (by decide) ?_
          refine lv_iload_n hx hb dX3_bottlesNow_60 rfl (lv_at hl 0 rfl) ?_
          refine lv_iadd hx hb dX3_bottlesNow_61 ?_
          refine kx_dald hx hb hK hP 3 1 rfl rfl (j := b) (ix0 b) (show b < 32 by omega) (by decide) dX3_bottlesNow_62 ?_
          refine kr_d (W.runS (As := [.double q, .double (h b)]) (rest := []) ⟨hx, hb, hml, hown, hts⟩ (metX3_lesser l D q (h b) r3) (va_cwS 2 hts gX3_bottlesNow_X3_lesser rfl rfl rfl (by decide +kernel) ⟨Nat.le_of_ble_eq_true rfl, Nat.le_of_ble_eq_true rfl⟩) (prS (ws := []) (tys := []) (fun k q h => by simp at h) (hK.sub [] rfl)) rfl rfl hl.1 rfl (lv_room (Nat.le_of_ble_eq_true rfl)) dX3_bottlesNow_63 ⟨Nat.le_of_ble_eq_true rfl, Nat.le_of_ble_eq_true rfl⟩) ?_
          refine kd_eq (show lesv q (h b) = leB h q b from rfl) ?_
          refine lv_dstore_n (lv' := [(2, .double (leB h q b)), (1, .int (nI b)), (0, .ref y)]) hx hb dX3_bottlesNow_66 rfl hl (by decide) rfl (fun ls hl => ?_)
          refine lv_dload_n hx hb dX3_bottlesNow_67 rfl (lv_at hl 0 rfl) ?_
          refine lv_ldc2d hx hb hown (hts (.constantDouble RX3 84 4591870180066957722) (by decide +kernel)) dX3_bottlesNow_68 ?_
          refine lv_ddiv hx hb dX3_bottlesNow_71 r6 ?_
          refine lv_d2i hx hb dX3_bottlesNow_72 ?_
          exact W.iret hx hb hr (fun t ht hW => ⟨_, rfl, by rw [rdv_some ho, if_pos c14, if_neg (fun h9 => h9.elim c29 c45)]; split; rfl; exact r7 (by assumption), ht⟩) (fun q hq => absurd hq List.not_mem_nil) dX3_bottlesNow_73
        · refine lv_iconst (v := 0) hx hb dX3_bottlesNow_49 (by decide) ?_
          exact W.iret hx hb hr (fun t ht hW => ⟨_, rfl, by rw [rdv_some ho, if_pos c14, if_pos (Or.inr c45)], ht⟩) (fun q hq => absurd hq List.not_mem_nil) dX3_bottlesNow_50

set_option maxHeartbeats 4000000 in
set_option maxRecDepth 100000 in
theorem metX3_add (l : Launch) (D : va_G) (sz : Nat) (y aw az ah ak : Nat) (cI cD : ClassId) (n : Nat) (hn : n ≤ 8) (wm ys : Int32) (q : UInt64) (qf yo ri ol th : Int32) (wd zs : Nat → Int32) (h kp : Nat → UInt64) (x z : Int32)  : Met l yX3_add wsX3_add { frames := 0, cells := 0, slots := 0, locals := 0 } (Pm D [(cI, .int), (cD, .double)] [.ref y, .int x, .int z] (modW y aw az ah ak cI cD (nI n) wm ys q qf yo ri ol th wd zs h kp) sz) (va_Qi (fun (r : Int32) (_ : Unit) => r = if thA zs n x z = 0 then nI n else 0) (Bm D [(cI, .int), (cD, .double)] (va_A (modW y aw az ah ak cI cD (nI n) wm ys q qf yo ri ol th wd zs h kp) sz) (modW y aw az ah ak cI cD (if thA zs n x z = 0 then nI (n + 1) else nI n) wm ys q qf yo ri ol (thA zs n x z) (if thA zs n x z = 0 then upd wd n x else wd) (if thA zs n x z = 0 then upd zs n z else zs) h kp)) (va_A (modW y aw az ah ak cI cD (nI n) wm ys q qf yo ri ol th wd zs h kp) sz)) 0 0 (va_A (modW y aw az ah ak cI cD (nI n) wm ys q qf yo ri ol th wd zs h kp) sz) := by
  refine Met.ofW (cc := cX3_add) (maxL := 4) (ret := (some .int)) (by decide) rfl ?_
  intro p e s m args below meth c s₁ B hml hv
  obtain ⟨rfl, hsz, hP, hK, hD0⟩ := hv
  have hx := B.exec
  have hb := B.bytes
  have hr := B.returns
  have hts := atoms_spec (ws := wsX3_add) B.pre
  have hown : s.vm.findClass RX3 = some m.cls := findClass_of_methodNamed B.named
  have hlocks := B.notSynchronized
  subst hsz
  have hD := hD0.self (sz := s.heap.size)
  generalize hAe : va_A (modW y aw az ah ak cI cD (nI n) wm ys q qf yo ri ol th wd zs h kp) s.heap.size = A at hD ⊢
  have hA : ∀ q : Nat, s.heap.size ≤ q → A q := fun q h => by rw [← hAe]; exact Or.inr h
  refine kW_H (fun H hH => ?_)
  have hP : va_P D vwCl (modW y aw az ah ak cI cD (nI n) wm ys q qf yo ri ol th wd zs h kp) H := by rw [hH]; exact hP
  have hS : va_S A s.heap H [] := by rw [hH]; exact va_S.rf
  have hl := lv_entry ([.ref y, .int x, .int z]) (n := 4) (Nat.le_of_ble_eq_true rfl)
  rw [lg_entry_eq]
  generalize (lg_sl ([.ref y, .int x, .int z]) ++ List.replicate (4 - (lg_sl ([.ref y, .int x, .int z])).length) Slot.unset).toArray = ls at hl ⊢
  have hl : lv_has ls 4 [(0, .ref y), (1, .int x), (2, .int z)] := hl
  refine lv_iload_n hx hb dX3_add_0 rfl (lv_at hl 1 rfl) ?_
  refine lv_if_lt (tgt := 47) hx hb dX3_add_1 (by decide) (fun c1 => ?_) (fun c1 => ?_)
  · refine lv_iconst (v := 0) hx hb dX3_add_47 (by decide) ?_
    refine lv_istore_n (lv' := [(3, .int 0), (0, .ref y), (1, .int x), (2, .int z)]) hx hb dX3_add_48 rfl hl (by decide) rfl (fun ls hl => ?_)
    refine lv_aload_n hx hb dX3_add_49 rfl (lv_at hl 1 rfl) ?_
    refine lv_iload_n hx hb dX3_add_50 rfl (lv_at hl 0 rfl) ?_
    refine lv_if_ne (tgt := 58) hx hb dX3_add_51 (by decide) (fun c51 => absurd c51 (fun h9 => h9 rfl)) (fun c51 => ?_)
    refine lv_iconst (v := 1) hx hb dX3_add_54 (by decide) ?_
    refine lv_goto (tgt := 72) hx hb dX3_add_55 (by decide) ?_
    refine va_put (D := D) (ci := 3) (v := .int 1) (ty := .int) (C := RX3) (T := TX3) (N := 13) hx hb hts (by decide +kernel) tyX3 tyX3_ok nmX3 hown hK hP hD hS (0) rfl rfl 12 (by decide) (hts (.fieldLink RX3 30 "VinegarLoftModel" "thrown" "I") (by decide +kernel)) (fun _ h9 => h9) rfl (by decide +kernel) rfl rfl (Nat.le_of_ble_eq_true rfl) dX3_add_72 (fun H locs hP hD hS => ?_)
    have hP : va_P D vwCl (modW y aw az ah ak cI cD (nI n) wm ys q qf yo ri ol 1 wd zs h kp) H := hP
    have hD : va_D A (modW y aw az ah ak cI cD (nI n) wm ys q qf yo ri ol 1 wd zs h kp) := hD
    refine lv_aload_n hx hb dX3_add_75 rfl (lv_at hl 1 rfl) ?_
    refine va_get (D := D) (ci := 3) (v := .int 1) (C := RX3) (T := TX3) (N := 13) hx hb hts (by decide +kernel) hown hK hP (0) rfl rfl 12 (by decide) (hts (.fieldLink RX3 30 "VinegarLoftModel" "thrown" "I") (by decide +kernel)) (fun _ h9 => h9) rfl dX3_add_76 ?_
    refine lv_if_eq (tgt := 84) hx hb dX3_add_79 (by decide) (fun c79 => absurd c79 (by decide)) (fun c79 => ?_)
    refine lv_iconst (v := 0) hx hb dX3_add_82 (by decide) ?_
    have hP : va_P D vwCl (modW y aw az ah ak cI cD (if thA zs n x z = 0 then nI (n + 1) else nI n) wm ys q qf yo ri ol (thA zs n x z) (if thA zs n x z = 0 then upd wd n x else wd) (if thA zs n x z = 0 then upd zs n z else zs) h kp) H := by rw [show thA zs n x z = 1 from by unfold thA; rw [if_pos (Or.inl (Or.inl c1))], if_neg (by decide), if_neg (by decide), if_neg (by decide)]; exact hP
    have hD : va_D A (modW y aw az ah ak cI cD (if thA zs n x z = 0 then nI (n + 1) else nI n) wm ys q qf yo ri ol (thA zs n x z) (if thA zs n x z = 0 then upd wd n x else wd) (if thA zs n x z = 0 then upd zs n z else zs) h kp) := by rw [show thA zs n x z = 1 from by unfold thA; rw [if_pos (Or.inl (Or.inl c1))], if_neg (by decide), if_neg (by decide), if_neg (by decide)]; exact hD
    exact W.iret hx hb hr (fun t ht hW => ⟨⟨_, (), rfl, by rw [show thA zs n x z = 1 from by unfold thA; rw [if_pos (Or.inl (Or.inl c1))], if_neg (by decide)], by rw [ht]; exact hP, va_K.moved hW.alike hK, hD⟩, hS.F ht⟩) hS.2.2 dX3_add_83
  · refine lv_iload_n hx hb dX3_add_4 rfl (lv_at hl 1 rfl) ?_
    refine lv_iconst (v := 3) hx hb dX3_add_5 (by decide) ?_
    refine lv_icmp_gt (tgt := 47) hx hb dX3_add_6 (by decide) (fun c6 => ?_) (fun c6 => ?_)
    · refine lv_iconst (v := 0) hx hb dX3_add_47 (by decide) ?_
      refine lv_istore_n (lv' := [(3, .int 0), (0, .ref y), (1, .int x), (2, .int z)]) hx hb dX3_add_48 rfl hl (by decide) rfl (fun ls hl => ?_)
      refine lv_aload_n hx hb dX3_add_49 rfl (lv_at hl 1 rfl) ?_
      refine lv_iload_n hx hb dX3_add_50 rfl (lv_at hl 0 rfl) ?_
      refine lv_if_ne (tgt := 58) hx hb dX3_add_51 (by decide) (fun c51 => absurd c51 (fun h9 => h9 rfl)) (fun c51 => ?_)
      refine lv_iconst (v := 1) hx hb dX3_add_54 (by decide) ?_
      refine lv_goto (tgt := 72) hx hb dX3_add_55 (by decide) ?_
      refine va_put (D := D) (ci := 3) (v := .int 1) (ty := .int) (C := RX3) (T := TX3) (N := 13) hx hb hts (by decide +kernel) tyX3 tyX3_ok nmX3 hown hK hP hD hS (0) rfl rfl 12 (by decide) (hts (.fieldLink RX3 30 "VinegarLoftModel" "thrown" "I") (by decide +kernel)) (fun _ h9 => h9) rfl (by decide +kernel) rfl rfl (Nat.le_of_ble_eq_true rfl) dX3_add_72 (fun H locs hP hD hS => ?_)
      have hP : va_P D vwCl (modW y aw az ah ak cI cD (nI n) wm ys q qf yo ri ol 1 wd zs h kp) H := hP
      have hD : va_D A (modW y aw az ah ak cI cD (nI n) wm ys q qf yo ri ol 1 wd zs h kp) := hD
      refine lv_aload_n hx hb dX3_add_75 rfl (lv_at hl 1 rfl) ?_
      refine va_get (D := D) (ci := 3) (v := .int 1) (C := RX3) (T := TX3) (N := 13) hx hb hts (by decide +kernel) hown hK hP (0) rfl rfl 12 (by decide) (hts (.fieldLink RX3 30 "VinegarLoftModel" "thrown" "I") (by decide +kernel)) (fun _ h9 => h9) rfl dX3_add_76 ?_
      refine lv_if_eq (tgt := 84) hx hb dX3_add_79 (by decide) (fun c79 => absurd c79 (by decide)) (fun c79 => ?_)
      refine lv_iconst (v := 0) hx hb dX3_add_82 (by decide) ?_
      have hP : va_P D vwCl (modW y aw az ah ak cI cD (if thA zs n x z = 0 then nI (n + 1) else nI n) wm ys q qf yo ri ol (thA zs n x z) (if thA zs n x z = 0 then upd wd n x else wd) (if thA zs n x z = 0 then upd zs n z else zs) h kp) H := by rw [show thA zs n x z = 1 from by unfold thA; rw [if_pos (Or.inl (Or.inr c6))], if_neg (by decide), if_neg (by decide), if_neg (by decide)]; exact hP
      have hD : va_D A (modW y aw az ah ak cI cD (if thA zs n x z = 0 then nI (n + 1) else nI n) wm ys q qf yo ri ol (thA zs n x z) (if thA zs n x z = 0 then upd wd n x else wd) (if thA zs n x z = 0 then upd zs n z else zs) h kp) := by rw [show thA zs n x z = 1 from by unfold thA; rw [if_pos (Or.inl (Or.inr c6))], if_neg (by decide), if_neg (by decide), if_neg (by decide)]; exact hD
      exact W.iret hx hb hr (fun t ht hW => ⟨⟨_, (), rfl, by rw [show thA zs n x z = 1 from by unfold thA; rw [if_pos (Or.inl (Or.inr c6))], if_neg (by decide)], by rw [ht]; exact hP, va_K.moved hW.alike hK, hD⟩, hS.F ht⟩) hS.2.2 dX3_add_83
    · refine lv_iload_n hx hb dX3_add_9 rfl (lv_at hl 2 rfl) ?_
      refine lv_bipush (v := 10) hx hb dX3_add_10 (by decide) ?_
      refine lv_icmp_lt (tgt := 47) hx hb dX3_add_12 (by decide) (fun c12 => ?_) (fun c12 => ?_)
      · refine lv_iconst (v := 0) hx hb dX3_add_47 (by decide) ?_
        refine lv_istore_n (lv' := [(3, .int 0), (0, .ref y), (1, .int x), (2, .int z)]) hx hb dX3_add_48 rfl hl (by decide) rfl (fun ls hl => ?_)
        refine lv_aload_n hx hb dX3_add_49 rfl (lv_at hl 1 rfl) ?_
        refine lv_iload_n hx hb dX3_add_50 rfl (lv_at hl 0 rfl) ?_
        refine lv_if_ne (tgt := 58) hx hb dX3_add_51 (by decide) (fun c51 => absurd c51 (fun h9 => h9 rfl)) (fun c51 => ?_)
        refine lv_iconst (v := 1) hx hb dX3_add_54 (by decide) ?_
        refine lv_goto (tgt := 72) hx hb dX3_add_55 (by decide) ?_
        refine va_put (D := D) (ci := 3) (v := .int 1) (ty := .int) (C := RX3) (T := TX3) (N := 13) hx hb hts (by decide +kernel) tyX3 tyX3_ok nmX3 hown hK hP hD hS (0) rfl rfl 12 (by decide) (hts (.fieldLink RX3 30 "VinegarLoftModel" "thrown" "I") (by decide +kernel)) (fun _ h9 => h9) rfl (by decide +kernel) rfl rfl (Nat.le_of_ble_eq_true rfl) dX3_add_72 (fun H locs hP hD hS => ?_)
        have hP : va_P D vwCl (modW y aw az ah ak cI cD (nI n) wm ys q qf yo ri ol 1 wd zs h kp) H := hP
        have hD : va_D A (modW y aw az ah ak cI cD (nI n) wm ys q qf yo ri ol 1 wd zs h kp) := hD
        refine lv_aload_n hx hb dX3_add_75 rfl (lv_at hl 1 rfl) ?_
        refine va_get (D := D) (ci := 3) (v := .int 1) (C := RX3) (T := TX3) (N := 13) hx hb hts (by decide +kernel) hown hK hP (0) rfl rfl 12 (by decide) (hts (.fieldLink RX3 30 "VinegarLoftModel" "thrown" "I") (by decide +kernel)) (fun _ h9 => h9) rfl dX3_add_76 ?_
        refine lv_if_eq (tgt := 84) hx hb dX3_add_79 (by decide) (fun c79 => absurd c79 (by decide)) (fun c79 => ?_)
        refine lv_iconst (v := 0) hx hb dX3_add_82 (by decide) ?_
        have hP : va_P D vwCl (modW y aw az ah ak cI cD (if thA zs n x z = 0 then nI (n + 1) else nI n) wm ys q qf yo ri ol (thA zs n x z) (if thA zs n x z = 0 then upd wd n x else wd) (if thA zs n x z = 0 then upd zs n z else zs) h kp) H := by rw [show thA zs n x z = 1 from by unfold thA; rw [if_pos (Or.inr (Or.inl (Or.inl c12)))], if_neg (by decide), if_neg (by decide), if_neg (by decide)]; exact hP
        have hD : va_D A (modW y aw az ah ak cI cD (if thA zs n x z = 0 then nI (n + 1) else nI n) wm ys q qf yo ri ol (thA zs n x z) (if thA zs n x z = 0 then upd wd n x else wd) (if thA zs n x z = 0 then upd zs n z else zs) h kp) := by rw [show thA zs n x z = 1 from by unfold thA; rw [if_pos (Or.inr (Or.inl (Or.inl c12)))], if_neg (by decide), if_neg (by decide), if_neg (by decide)]; exact hD
        exact W.iret hx hb hr (fun t ht hW => ⟨⟨_, (), rfl, by rw [show thA zs n x z = 1 from by unfold thA; rw [if_pos (Or.inr (Or.inl (Or.inl c12)))], if_neg (by decide)], by rw [ht]; exact hP, va_K.moved hW.alike hK, hD⟩, hS.F ht⟩) hS.2.2 dX3_add_83
      · refine lv_iload_n hx hb dX3_add_15 rfl (lv_at hl 2 rfl) ?_
        refine lv_bipush (v := 100) hx hb dX3_add_16 (by decide) ?_
        refine lv_icmp_gt (tgt := 47) hx hb dX3_add_18 (by decide) (fun c18 => ?_) (fun c18 => ?_)
        · refine lv_iconst (v := 0) hx hb dX3_add_47 (by decide) ?_
          refine lv_istore_n (lv' := [(3, .int 0), (0, .ref y), (1, .int x), (2, .int z)]) hx hb dX3_add_48 rfl hl (by decide) rfl (fun ls hl => ?_)
          refine lv_aload_n hx hb dX3_add_49 rfl (lv_at hl 1 rfl) ?_
          refine lv_iload_n hx hb dX3_add_50 rfl (lv_at hl 0 rfl) ?_
          refine lv_if_ne (tgt := 58) hx hb dX3_add_51 (by decide) (fun c51 => absurd c51 (fun h9 => h9 rfl)) (fun c51 => ?_)
          refine lv_iconst (v := 1) hx hb dX3_add_54 (by decide) ?_
          refine lv_goto (tgt := 72) hx hb dX3_add_55 (by decide) ?_
          refine va_put (D := D) (ci := 3) (v := .int 1) (ty := .int) (C := RX3) (T := TX3) (N := 13) hx hb hts (by decide +kernel) tyX3 tyX3_ok nmX3 hown hK hP hD hS (0) rfl rfl 12 (by decide) (hts (.fieldLink RX3 30 "VinegarLoftModel" "thrown" "I") (by decide +kernel)) (fun _ h9 => h9) rfl (by decide +kernel) rfl rfl (Nat.le_of_ble_eq_true rfl) dX3_add_72 (fun H locs hP hD hS => ?_)
          have hP : va_P D vwCl (modW y aw az ah ak cI cD (nI n) wm ys q qf yo ri ol 1 wd zs h kp) H := hP
          have hD : va_D A (modW y aw az ah ak cI cD (nI n) wm ys q qf yo ri ol 1 wd zs h kp) := hD
          refine lv_aload_n hx hb dX3_add_75 rfl (lv_at hl 1 rfl) ?_
          refine va_get (D := D) (ci := 3) (v := .int 1) (C := RX3) (T := TX3) (N := 13) hx hb hts (by decide +kernel) hown hK hP (0) rfl rfl 12 (by decide) (hts (.fieldLink RX3 30 "VinegarLoftModel" "thrown" "I") (by decide +kernel)) (fun _ h9 => h9) rfl dX3_add_76 ?_
          refine lv_if_eq (tgt := 84) hx hb dX3_add_79 (by decide) (fun c79 => absurd c79 (by decide)) (fun c79 => ?_)
          refine lv_iconst (v := 0) hx hb dX3_add_82 (by decide) ?_
          have hP : va_P D vwCl (modW y aw az ah ak cI cD (if thA zs n x z = 0 then nI (n + 1) else nI n) wm ys q qf yo ri ol (thA zs n x z) (if thA zs n x z = 0 then upd wd n x else wd) (if thA zs n x z = 0 then upd zs n z else zs) h kp) H := by rw [show thA zs n x z = 1 from by unfold thA; rw [if_pos (Or.inr (Or.inl (Or.inr c18)))], if_neg (by decide), if_neg (by decide), if_neg (by decide)]; exact hP
          have hD : va_D A (modW y aw az ah ak cI cD (if thA zs n x z = 0 then nI (n + 1) else nI n) wm ys q qf yo ri ol (thA zs n x z) (if thA zs n x z = 0 then upd wd n x else wd) (if thA zs n x z = 0 then upd zs n z else zs) h kp) := by rw [show thA zs n x z = 1 from by unfold thA; rw [if_pos (Or.inr (Or.inl (Or.inr c18)))], if_neg (by decide), if_neg (by decide), if_neg (by decide)]; exact hD
          exact W.iret hx hb hr (fun t ht hW => ⟨⟨_, (), rfl, by rw [show thA zs n x z = 1 from by unfold thA; rw [if_pos (Or.inr (Or.inl (Or.inr c18)))], if_neg (by decide)], by rw [ht]; exact hP, va_K.moved hW.alike hK, hD⟩, hS.F ht⟩) hS.2.2 dX3_add_83
        · refine lv_aload_n hx hb dX3_add_21 rfl (lv_at hl 0 rfl) ?_
          refine va_get (D := D) (ci := 3) (v := .int (nI n)) (C := RX3) (T := TX3) (N := 13) hx hb hts (by decide +kernel) hown hK hP (0) rfl rfl 4 (by decide) (hts (.fieldLink RX3 33 "VinegarLoftModel" "many" "I") (by decide +kernel)) (fun _ h9 => h9) rfl dX3_add_22 ?_
          refine lv_if_eq (tgt := 43) hx hb dX3_add_25 (by decide) (fun c25 => ?_) (fun c25 => ?_)
          · refine lv_iconst (v := 1) hx hb dX3_add_43 (by decide) ?_
            refine lv_goto (tgt := 48) hx hb dX3_add_44 (by decide) ?_
            refine lv_istore_n (lv' := [(3, .int 1), (0, .ref y), (1, .int x), (2, .int z)]) hx hb dX3_add_48 rfl hl (by decide) rfl (fun ls hl => ?_)
            refine lv_aload_n hx hb dX3_add_49 rfl (lv_at hl 1 rfl) ?_
            refine lv_iload_n hx hb dX3_add_50 rfl (lv_at hl 0 rfl) ?_
            refine lv_if_ne (tgt := 58) hx hb dX3_add_51 (by decide) (fun c51 => ?_) (fun c51 => absurd c51 (by decide))
            refine lv_aload_n hx hb dX3_add_58 rfl (lv_at hl 1 rfl) ?_
            refine va_get (D := D) (ci := 3) (v := .int (nI n)) (C := RX3) (T := TX3) (N := 13) hx hb hts (by decide +kernel) hown hK hP (0) rfl rfl 4 (by decide) (hts (.fieldLink RX3 33 "VinegarLoftModel" "many" "I") (by decide +kernel)) (fun _ h9 => h9) rfl dX3_add_59 ?_
            refine lv_bipush (v := 8) hx hb dX3_add_62 (by decide) ?_
            refine lv_icmp_ne (tgt := 71) hx hb dX3_add_64 (by decide) (fun c64 => ?_) (fun c64 => ?_)
            · refine lv_iconst (v := 0) hx hb dX3_add_71 (by decide) ?_
              refine va_put (D := D) (ci := 3) (v := .int 0) (ty := .int) (C := RX3) (T := TX3) (N := 13) hx hb hts (by decide +kernel) tyX3 tyX3_ok nmX3 hown hK hP hD hS (0) rfl rfl 12 (by decide) (hts (.fieldLink RX3 30 "VinegarLoftModel" "thrown" "I") (by decide +kernel)) (fun _ h9 => h9) rfl (by decide +kernel) rfl rfl (Nat.le_of_ble_eq_true rfl) dX3_add_72 (fun H locs hP hD hS => ?_)
              have hP : va_P D vwCl (modW y aw az ah ak cI cD (nI n) wm ys q qf yo ri ol 0 wd zs h kp) H := hP
              have hD : va_D A (modW y aw az ah ak cI cD (nI n) wm ys q qf yo ri ol 0 wd zs h kp) := hD
              refine lv_aload_n hx hb dX3_add_75 rfl (lv_at hl 1 rfl) ?_
              refine va_get (D := D) (ci := 3) (v := .int 0) (C := RX3) (T := TX3) (N := 13) hx hb hts (by decide +kernel) hown hK hP (0) rfl rfl 12 (by decide) (hts (.fieldLink RX3 30 "VinegarLoftModel" "thrown" "I") (by decide +kernel)) (fun _ h9 => h9) rfl dX3_add_76 ?_
              refine lv_if_eq (tgt := 84) hx hb dX3_add_79 (by decide) (fun c79 => ?_) (fun c79 => absurd rfl c79)
              have hn8 : n < 8 := by have h9 : n ≠ 8 := (fun h9 => c64 (by rw [h9]; rfl)); omega
              refine lv_aload_n hx hb dX3_add_84 rfl (lv_at hl 1 rfl) ?_
              refine va_get (D := D) (ci := 3) (v := .ref aw) (C := RX3) (T := TX3) (N := 13) hx hb hts (by decide +kernel) hown hK hP (0) rfl rfl 0 (by decide) (hts (.fieldLink RX3 7 "VinegarLoftModel" "wood" "[I") (by decide +kernel)) (fun _ h9 => h9) rfl dX3_add_85 ?_
              refine lv_aload_n hx hb dX3_add_88 rfl (lv_at hl 1 rfl) ?_
              refine va_get (D := D) (ci := 3) (v := .int (nI n)) (C := RX3) (T := TX3) (N := 13) hx hb hts (by decide +kernel) hown hK hP (0) rfl rfl 4 (by decide) (hts (.fieldLink RX3 33 "VinegarLoftModel" "many" "I") (by decide +kernel)) (fun _ h9 => h9) rfl dX3_add_89 ?_
              refine lv_iload_n hx hb dX3_add_92 rfl (lv_at hl 2 rfl) ?_
              refine kx_iast hx hb hK hP hD hS 1 0 rfl rfl (j := n) rfl (show n < 8 by omega) (by decide) dX3_add_93 (fun H locs hP hD hS => ?_)
              have hP : va_P D vwCl (modW y aw az ah ak cI cD (nI n) wm ys q qf yo ri ol 0 (upd wd n x) zs h kp) H := hP
              have hD : va_D A (modW y aw az ah ak cI cD (nI n) wm ys q qf yo ri ol 0 (upd wd n x) zs h kp) := hD
              refine lv_aload_n hx hb dX3_add_94 rfl (lv_at hl 1 rfl) ?_
              refine va_get (D := D) (ci := 3) (v := .ref az) (C := RX3) (T := TX3) (N := 13) hx hb hts (by decide +kernel) hown hK hP (0) rfl rfl 1 (by decide) (hts (.fieldLink RX3 13 "VinegarLoftModel" "sizes" "[I") (by decide +kernel)) (fun _ h9 => h9) rfl dX3_add_95 ?_
              refine lv_aload_n hx hb dX3_add_98 rfl (lv_at hl 1 rfl) ?_
              refine va_get (D := D) (ci := 3) (v := .int (nI n)) (C := RX3) (T := TX3) (N := 13) hx hb hts (by decide +kernel) hown hK hP (0) rfl rfl 4 (by decide) (hts (.fieldLink RX3 33 "VinegarLoftModel" "many" "I") (by decide +kernel)) (fun _ h9 => h9) rfl dX3_add_99 ?_
              refine lv_iload_n hx hb dX3_add_102 rfl (lv_at hl 3 rfl) ?_
              refine kx_iast hx hb hK hP hD hS 2 0 rfl rfl (j := n) rfl (show n < 8 by omega) (by decide) dX3_add_103 (fun H locs hP hD hS => ?_)
              have hP : va_P D vwCl (modW y aw az ah ak cI cD (nI n) wm ys q qf yo ri ol 0 (upd wd n x) (upd zs n z) h kp) H := hP
              have hD : va_D A (modW y aw az ah ak cI cD (nI n) wm ys q qf yo ri ol 0 (upd wd n x) (upd zs n z) h kp) := hD
              refine lv_aload_n hx hb dX3_add_104 rfl (lv_at hl 1 rfl) ?_
              refine lv_dup hx hb dX3_add_105 rfl ?_
              refine va_get (D := D) (ci := 3) (v := .int (nI n)) (C := RX3) (T := TX3) (N := 13) hx hb hts (by decide +kernel) hown hK hP (0) rfl rfl 4 (by decide) (hts (.fieldLink RX3 33 "VinegarLoftModel" "many" "I") (by decide +kernel)) (fun _ h9 => h9) rfl dX3_add_106 ?_
              refine lv_iconst (v := 1) hx hb dX3_add_109 (by decide) ?_
              refine lv_iadd hx hb dX3_add_110 ?_
              refine va_put (D := D) (ci := 3) (v := .int ((nI n) + 1)) (ty := .int) (C := RX3) (T := TX3) (N := 13) hx hb hts (by decide +kernel) tyX3 tyX3_ok nmX3 hown hK hP hD hS (0) rfl rfl 4 (by decide) (hts (.fieldLink RX3 33 "VinegarLoftModel" "many" "I") (by decide +kernel)) (fun _ h9 => h9) rfl (by decide +kernel) rfl rfl (Nat.le_of_ble_eq_true rfl) dX3_add_111 (fun H locs hP hD hS => ?_)
              have hP : va_P D vwCl (modW y aw az ah ak cI cD ((nI n) + 1) wm ys q qf yo ri ol 0 (upd wd n x) (upd zs n z) h kp) H := hP
              have hD : va_D A (modW y aw az ah ak cI cD ((nI n) + 1) wm ys q qf yo ri ol 0 (upd wd n x) (upd zs n z) h kp) := hD
              rw [nI_1 n] at hP hD
              have hP : va_P D vwCl (modW y aw az ah ak cI cD (nI (n + 1)) wm ys q qf yo ri ol 0 (upd wd n x) (upd zs n z) h kp) H := hP
              have hD : va_D A (modW y aw az ah ak cI cD (nI (n + 1)) wm ys q qf yo ri ol 0 (upd wd n x) (upd zs n z) h kp) := hD
              refine lv_aload_n hx hb dX3_add_114 rfl (lv_at hl 1 rfl) ?_
              refine va_get (D := D) (ci := 3) (v := .int (nI (n + 1))) (C := RX3) (T := TX3) (N := 13) hx hb hts (by decide +kernel) hown hK hP (0) rfl rfl 4 (by decide) (hts (.fieldLink RX3 33 "VinegarLoftModel" "many" "I") (by decide +kernel)) (fun _ h9 => h9) rfl dX3_add_115 ?_
              refine lv_iconst (v := 1) hx hb dX3_add_118 (by decide) ?_
              refine lv_isub hx hb dX3_add_119 ?_
              have hP : va_P D vwCl (modW y aw az ah ak cI cD (if thA zs n x z = 0 then nI (n + 1) else nI n) wm ys q qf yo ri ol (thA zs n x z) (if thA zs n x z = 0 then upd wd n x else wd) (if thA zs n x z = 0 then upd zs n z else zs) h kp) H := by rw [show thA zs n x z = 0 from by unfold thA; rw [if_neg (fun h9 => h9.elim (fun h9 => h9.elim c1 c6) (fun h9 => h9.elim (fun h9 => h9.elim c12 c18) (fun h8 => h8.1 c25))), if_neg c64], if_pos rfl, if_pos rfl, if_pos rfl]; exact hP
              have hD : va_D A (modW y aw az ah ak cI cD (if thA zs n x z = 0 then nI (n + 1) else nI n) wm ys q qf yo ri ol (thA zs n x z) (if thA zs n x z = 0 then upd wd n x else wd) (if thA zs n x z = 0 then upd zs n z else zs) h kp) := by rw [show thA zs n x z = 0 from by unfold thA; rw [if_neg (fun h9 => h9.elim (fun h9 => h9.elim c1 c6) (fun h9 => h9.elim (fun h9 => h9.elim c12 c18) (fun h8 => h8.1 c25))), if_neg c64], if_pos rfl, if_pos rfl, if_pos rfl]; exact hD
              exact W.iret hx hb hr (fun t ht hW => ⟨⟨_, (), rfl, by rw [show thA zs n x z = 0 from by unfold thA; rw [if_neg (fun h9 => h9.elim (fun h9 => h9.elim c1 c6) (fun h9 => h9.elim (fun h9 => h9.elim c12 c18) (fun h8 => h8.1 c25))), if_neg c64], if_pos rfl]; exact nI_p (n := n + 1) (by omega), by rw [ht]; exact hP, va_K.moved hW.alike hK, hD⟩, hS.F ht⟩) hS.2.2 dX3_add_120
            · refine lv_iconst (v := 2) hx hb dX3_add_67 (by decide) ?_
              refine lv_goto (tgt := 72) hx hb dX3_add_68 (by decide) ?_
              refine va_put (D := D) (ci := 3) (v := .int 2) (ty := .int) (C := RX3) (T := TX3) (N := 13) hx hb hts (by decide +kernel) tyX3 tyX3_ok nmX3 hown hK hP hD hS (0) rfl rfl 12 (by decide) (hts (.fieldLink RX3 30 "VinegarLoftModel" "thrown" "I") (by decide +kernel)) (fun _ h9 => h9) rfl (by decide +kernel) rfl rfl (Nat.le_of_ble_eq_true rfl) dX3_add_72 (fun H locs hP hD hS => ?_)
              have hP : va_P D vwCl (modW y aw az ah ak cI cD (nI n) wm ys q qf yo ri ol 2 wd zs h kp) H := hP
              have hD : va_D A (modW y aw az ah ak cI cD (nI n) wm ys q qf yo ri ol 2 wd zs h kp) := hD
              refine lv_aload_n hx hb dX3_add_75 rfl (lv_at hl 1 rfl) ?_
              refine va_get (D := D) (ci := 3) (v := .int 2) (C := RX3) (T := TX3) (N := 13) hx hb hts (by decide +kernel) hown hK hP (0) rfl rfl 12 (by decide) (hts (.fieldLink RX3 30 "VinegarLoftModel" "thrown" "I") (by decide +kernel)) (fun _ h9 => h9) rfl dX3_add_76 ?_
              refine lv_if_eq (tgt := 84) hx hb dX3_add_79 (by decide) (fun c79 => absurd c79 (by decide)) (fun c79 => ?_)
              refine lv_iconst (v := 0) hx hb dX3_add_82 (by decide) ?_
              have hP : va_P D vwCl (modW y aw az ah ak cI cD (if thA zs n x z = 0 then nI (n + 1) else nI n) wm ys q qf yo ri ol (thA zs n x z) (if thA zs n x z = 0 then upd wd n x else wd) (if thA zs n x z = 0 then upd zs n z else zs) h kp) H := by rw [show thA zs n x z = 2 from by unfold thA; rw [if_neg (fun h9 => h9.elim (fun h9 => h9.elim c1 c6) (fun h9 => h9.elim (fun h9 => h9.elim c12 c18) (fun h8 => h8.1 c25))), if_pos c64], if_neg (by decide), if_neg (by decide), if_neg (by decide)]; exact hP
              have hD : va_D A (modW y aw az ah ak cI cD (if thA zs n x z = 0 then nI (n + 1) else nI n) wm ys q qf yo ri ol (thA zs n x z) (if thA zs n x z = 0 then upd wd n x else wd) (if thA zs n x z = 0 then upd zs n z else zs) h kp) := by rw [show thA zs n x z = 2 from by unfold thA; rw [if_neg (fun h9 => h9.elim (fun h9 => h9.elim c1 c6) (fun h9 => h9.elim (fun h9 => h9.elim c12 c18) (fun h8 => h8.1 c25))), if_pos c64], if_neg (by decide), if_neg (by decide), if_neg (by decide)]; exact hD
              exact W.iret hx hb hr (fun t ht hW => ⟨⟨_, (), rfl, by rw [show thA zs n x z = 2 from by unfold thA; rw [if_neg (fun h9 => h9.elim (fun h9 => h9.elim c1 c6) (fun h9 => h9.elim (fun h9 => h9.elim c12 c18) (fun h8 => h8.1 c25))), if_pos c64], if_neg (by decide)], by rw [ht]; exact hP, va_K.moved hW.alike hK, hD⟩, hS.F ht⟩) hS.2.2 dX3_add_83
          · have h0 : n ≠ 0 := fun h9 => c25 (by rw [h9]; rfl)
            refine lv_iload_n hx hb dX3_add_28 rfl (lv_at hl 2 rfl) ?_
            refine lv_aload_n hx hb dX3_add_29 rfl (lv_at hl 0 rfl) ?_
            refine va_get (D := D) (ci := 3) (v := .ref az) (C := RX3) (T := TX3) (N := 13) hx hb hts (by decide +kernel) hown hK hP (0) rfl rfl 1 (by decide) (hts (.fieldLink RX3 13 "VinegarLoftModel" "sizes" "[I") (by decide +kernel)) (fun _ h9 => h9) rfl dX3_add_30 ?_
            refine lv_aload_n hx hb dX3_add_33 rfl (lv_at hl 0 rfl) ?_
            refine va_get (D := D) (ci := 3) (v := .int (nI n)) (C := RX3) (T := TX3) (N := 13) hx hb hts (by decide +kernel) hown hK hP (0) rfl rfl 4 (by decide) (hts (.fieldLink RX3 33 "VinegarLoftModel" "many" "I") (by decide +kernel)) (fun _ h9 => h9) rfl dX3_add_34 ?_
            refine lv_iconst (v := 1) hx hb dX3_add_37 (by decide) ?_
            refine lv_isub hx hb dX3_add_38 ?_
            refine kx_iald hx hb hK hP 2 0 rfl rfl (j := n - 1) (nI_p (by omega)) (show n - 1 < 8 by omega) (by decide) dX3_add_39 ?_
            refine lv_icmp_ge (tgt := 47) hx hb dX3_add_40 (by decide) (fun c40 => ?_) (fun c40 => ?_)
            · refine lv_iconst (v := 0) hx hb dX3_add_47 (by decide) ?_
              refine lv_istore_n (lv' := [(3, .int 0), (0, .ref y), (1, .int x), (2, .int z)]) hx hb dX3_add_48 rfl hl (by decide) rfl (fun ls hl => ?_)
              refine lv_aload_n hx hb dX3_add_49 rfl (lv_at hl 1 rfl) ?_
              refine lv_iload_n hx hb dX3_add_50 rfl (lv_at hl 0 rfl) ?_
              refine lv_if_ne (tgt := 58) hx hb dX3_add_51 (by decide) (fun c51 => absurd c51 (fun h9 => h9 rfl)) (fun c51 => ?_)
              refine lv_iconst (v := 1) hx hb dX3_add_54 (by decide) ?_
              refine lv_goto (tgt := 72) hx hb dX3_add_55 (by decide) ?_
              refine va_put (D := D) (ci := 3) (v := .int 1) (ty := .int) (C := RX3) (T := TX3) (N := 13) hx hb hts (by decide +kernel) tyX3 tyX3_ok nmX3 hown hK hP hD hS (0) rfl rfl 12 (by decide) (hts (.fieldLink RX3 30 "VinegarLoftModel" "thrown" "I") (by decide +kernel)) (fun _ h9 => h9) rfl (by decide +kernel) rfl rfl (Nat.le_of_ble_eq_true rfl) dX3_add_72 (fun H locs hP hD hS => ?_)
              have hP : va_P D vwCl (modW y aw az ah ak cI cD (nI n) wm ys q qf yo ri ol 1 wd zs h kp) H := hP
              have hD : va_D A (modW y aw az ah ak cI cD (nI n) wm ys q qf yo ri ol 1 wd zs h kp) := hD
              refine lv_aload_n hx hb dX3_add_75 rfl (lv_at hl 1 rfl) ?_
              refine va_get (D := D) (ci := 3) (v := .int 1) (C := RX3) (T := TX3) (N := 13) hx hb hts (by decide +kernel) hown hK hP (0) rfl rfl 12 (by decide) (hts (.fieldLink RX3 30 "VinegarLoftModel" "thrown" "I") (by decide +kernel)) (fun _ h9 => h9) rfl dX3_add_76 ?_
              refine lv_if_eq (tgt := 84) hx hb dX3_add_79 (by decide) (fun c79 => absurd c79 (by decide)) (fun c79 => ?_)
              refine lv_iconst (v := 0) hx hb dX3_add_82 (by decide) ?_
              have hP : va_P D vwCl (modW y aw az ah ak cI cD (if thA zs n x z = 0 then nI (n + 1) else nI n) wm ys q qf yo ri ol (thA zs n x z) (if thA zs n x z = 0 then upd wd n x else wd) (if thA zs n x z = 0 then upd zs n z else zs) h kp) H := by rw [show thA zs n x z = 1 from by unfold thA; rw [if_pos (Or.inr (Or.inr ⟨c25, c40⟩))], if_neg (by decide), if_neg (by decide), if_neg (by decide)]; exact hP
              have hD : va_D A (modW y aw az ah ak cI cD (if thA zs n x z = 0 then nI (n + 1) else nI n) wm ys q qf yo ri ol (thA zs n x z) (if thA zs n x z = 0 then upd wd n x else wd) (if thA zs n x z = 0 then upd zs n z else zs) h kp) := by rw [show thA zs n x z = 1 from by unfold thA; rw [if_pos (Or.inr (Or.inr ⟨c25, c40⟩))], if_neg (by decide), if_neg (by decide), if_neg (by decide)]; exact hD
              exact W.iret hx hb hr (fun t ht hW => ⟨⟨_, (), rfl, by rw [show thA zs n x z = 1 from by unfold thA; rw [if_pos (Or.inr (Or.inr ⟨c25, c40⟩))], if_neg (by decide)], by rw [ht]; exact hP, va_K.moved hW.alike hK, hD⟩, hS.F ht⟩) hS.2.2 dX3_add_83
            · refine lv_iconst (v := 1) hx hb dX3_add_43 (by decide) ?_
              refine lv_goto (tgt := 48) hx hb dX3_add_44 (by decide) ?_
              refine lv_istore_n (lv' := [(3, .int 1), (0, .ref y), (1, .int x), (2, .int z)]) hx hb dX3_add_48 rfl hl (by decide) rfl (fun ls hl => ?_)
              refine lv_aload_n hx hb dX3_add_49 rfl (lv_at hl 1 rfl) ?_
              refine lv_iload_n hx hb dX3_add_50 rfl (lv_at hl 0 rfl) ?_
              refine lv_if_ne (tgt := 58) hx hb dX3_add_51 (by decide) (fun c51 => ?_) (fun c51 => absurd c51 (by decide))
              refine lv_aload_n hx hb dX3_add_58 rfl (lv_at hl 1 rfl) ?_
              refine va_get (D := D) (ci := 3) (v := .int (nI n)) (C := RX3) (T := TX3) (N := 13) hx hb hts (by decide +kernel) hown hK hP (0) rfl rfl 4 (by decide) (hts (.fieldLink RX3 33 "VinegarLoftModel" "many" "I") (by decide +kernel)) (fun _ h9 => h9) rfl dX3_add_59 ?_
              refine lv_bipush (v := 8) hx hb dX3_add_62 (by decide) ?_
              refine lv_icmp_ne (tgt := 71) hx hb dX3_add_64 (by decide) (fun c64 => ?_) (fun c64 => ?_)
              · refine lv_iconst (v := 0) hx hb dX3_add_71 (by decide) ?_
                refine va_put (D := D) (ci := 3) (v := .int 0) (ty := .int) (C := RX3) (T := TX3) (N := 13) hx hb hts (by decide +kernel) tyX3 tyX3_ok nmX3 hown hK hP hD hS (0) rfl rfl 12 (by decide) (hts (.fieldLink RX3 30 "VinegarLoftModel" "thrown" "I") (by decide +kernel)) (fun _ h9 => h9) rfl (by decide +kernel) rfl rfl (Nat.le_of_ble_eq_true rfl) dX3_add_72 (fun H locs hP hD hS => ?_)
                have hP : va_P D vwCl (modW y aw az ah ak cI cD (nI n) wm ys q qf yo ri ol 0 wd zs h kp) H := hP
                have hD : va_D A (modW y aw az ah ak cI cD (nI n) wm ys q qf yo ri ol 0 wd zs h kp) := hD
                refine lv_aload_n hx hb dX3_add_75 rfl (lv_at hl 1 rfl) ?_
                refine va_get (D := D) (ci := 3) (v := .int 0) (C := RX3) (T := TX3) (N := 13) hx hb hts (by decide +kernel) hown hK hP (0) rfl rfl 12 (by decide) (hts (.fieldLink RX3 30 "VinegarLoftModel" "thrown" "I") (by decide +kernel)) (fun _ h9 => h9) rfl dX3_add_76 ?_
                refine lv_if_eq (tgt := 84) hx hb dX3_add_79 (by decide) (fun c79 => ?_) (fun c79 => absurd rfl c79)
                have hn8 : n < 8 := by have h9 : n ≠ 8 := (fun h9 => c64 (by rw [h9]; rfl)); omega
                refine lv_aload_n hx hb dX3_add_84 rfl (lv_at hl 1 rfl) ?_
                refine va_get (D := D) (ci := 3) (v := .ref aw) (C := RX3) (T := TX3) (N := 13) hx hb hts (by decide +kernel) hown hK hP (0) rfl rfl 0 (by decide) (hts (.fieldLink RX3 7 "VinegarLoftModel" "wood" "[I") (by decide +kernel)) (fun _ h9 => h9) rfl dX3_add_85 ?_
                refine lv_aload_n hx hb dX3_add_88 rfl (lv_at hl 1 rfl) ?_
                refine va_get (D := D) (ci := 3) (v := .int (nI n)) (C := RX3) (T := TX3) (N := 13) hx hb hts (by decide +kernel) hown hK hP (0) rfl rfl 4 (by decide) (hts (.fieldLink RX3 33 "VinegarLoftModel" "many" "I") (by decide +kernel)) (fun _ h9 => h9) rfl dX3_add_89 ?_
                refine lv_iload_n hx hb dX3_add_92 rfl (lv_at hl 2 rfl) ?_
                refine kx_iast hx hb hK hP hD hS 1 0 rfl rfl (j := n) rfl (show n < 8 by omega) (by decide) dX3_add_93 (fun H locs hP hD hS => ?_)
                have hP : va_P D vwCl (modW y aw az ah ak cI cD (nI n) wm ys q qf yo ri ol 0 (upd wd n x) zs h kp) H := hP
                have hD : va_D A (modW y aw az ah ak cI cD (nI n) wm ys q qf yo ri ol 0 (upd wd n x) zs h kp) := hD
                refine lv_aload_n hx hb dX3_add_94 rfl (lv_at hl 1 rfl) ?_
                refine va_get (D := D) (ci := 3) (v := .ref az) (C := RX3) (T := TX3) (N := 13) hx hb hts (by decide +kernel) hown hK hP (0) rfl rfl 1 (by decide) (hts (.fieldLink RX3 13 "VinegarLoftModel" "sizes" "[I") (by decide +kernel)) (fun _ h9 => h9) rfl dX3_add_95 ?_
                refine lv_aload_n hx hb dX3_add_98 rfl (lv_at hl 1 rfl) ?_
                refine va_get (D := D) (ci := 3) (v := .int (nI n)) (C := RX3) (T := TX3) (N := 13) hx hb hts (by decide +kernel) hown hK hP (0) rfl rfl 4 (by decide) (hts (.fieldLink RX3 33 "VinegarLoftModel" "many" "I") (by decide +kernel)) (fun _ h9 => h9) rfl dX3_add_99 ?_
                refine lv_iload_n hx hb dX3_add_102 rfl (lv_at hl 3 rfl) ?_
                refine kx_iast hx hb hK hP hD hS 2 0 rfl rfl (j := n) rfl (show n < 8 by omega) (by decide) dX3_add_103 (fun H locs hP hD hS => ?_)
                have hP : va_P D vwCl (modW y aw az ah ak cI cD (nI n) wm ys q qf yo ri ol 0 (upd wd n x) (upd zs n z) h kp) H := hP
                have hD : va_D A (modW y aw az ah ak cI cD (nI n) wm ys q qf yo ri ol 0 (upd wd n x) (upd zs n z) h kp) := hD
                refine lv_aload_n hx hb dX3_add_104 rfl (lv_at hl 1 rfl) ?_
                refine lv_dup hx hb dX3_add_105 rfl ?_
                refine va_get (D := D) (ci := 3) (v := .int (nI n)) (C := RX3) (T := TX3) (N := 13) hx hb hts (by decide +kernel) hown hK hP (0) rfl rfl 4 (by decide) (hts (.fieldLink RX3 33 "VinegarLoftModel" "many" "I") (by decide +kernel)) (fun _ h9 => h9) rfl dX3_add_106 ?_
                refine lv_iconst (v := 1) hx hb dX3_add_109 (by decide) ?_
                refine lv_iadd hx hb dX3_add_110 ?_
                refine va_put (D := D) (ci := 3) (v := .int ((nI n) + 1)) (ty := .int) (C := RX3) (T := TX3) (N := 13) hx hb hts (by decide +kernel) tyX3 tyX3_ok nmX3 hown hK hP hD hS (0) rfl rfl 4 (by decide) (hts (.fieldLink RX3 33 "VinegarLoftModel" "many" "I") (by decide +kernel)) (fun _ h9 => h9) rfl (by decide +kernel) rfl rfl (Nat.le_of_ble_eq_true rfl) dX3_add_111 (fun H locs hP hD hS => ?_)
                have hP : va_P D vwCl (modW y aw az ah ak cI cD ((nI n) + 1) wm ys q qf yo ri ol 0 (upd wd n x) (upd zs n z) h kp) H := hP
                have hD : va_D A (modW y aw az ah ak cI cD ((nI n) + 1) wm ys q qf yo ri ol 0 (upd wd n x) (upd zs n z) h kp) := hD
                rw [nI_1 n] at hP hD
                have hP : va_P D vwCl (modW y aw az ah ak cI cD (nI (n + 1)) wm ys q qf yo ri ol 0 (upd wd n x) (upd zs n z) h kp) H := hP
                have hD : va_D A (modW y aw az ah ak cI cD (nI (n + 1)) wm ys q qf yo ri ol 0 (upd wd n x) (upd zs n z) h kp) := hD
                refine lv_aload_n hx hb dX3_add_114 rfl (lv_at hl 1 rfl) ?_
                refine va_get (D := D) (ci := 3) (v := .int (nI (n + 1))) (C := RX3) (T := TX3) (N := 13) hx hb hts (by decide +kernel) hown hK hP (0) rfl rfl 4 (by decide) (hts (.fieldLink RX3 33 "VinegarLoftModel" "many" "I") (by decide +kernel)) (fun _ h9 => h9) rfl dX3_add_115 ?_
                refine lv_iconst (v := 1) hx hb dX3_add_118 (by decide) ?_
                refine lv_isub hx hb dX3_add_119 ?_
                have hP : va_P D vwCl (modW y aw az ah ak cI cD (if thA zs n x z = 0 then nI (n + 1) else nI n) wm ys q qf yo ri ol (thA zs n x z) (if thA zs n x z = 0 then upd wd n x else wd) (if thA zs n x z = 0 then upd zs n z else zs) h kp) H := by rw [show thA zs n x z = 0 from by unfold thA; rw [if_neg (fun h9 => h9.elim (fun h9 => h9.elim c1 c6) (fun h9 => h9.elim (fun h9 => h9.elim c12 c18) (fun h8 => c40 h8.2))), if_neg c64], if_pos rfl, if_pos rfl, if_pos rfl]; exact hP
                have hD : va_D A (modW y aw az ah ak cI cD (if thA zs n x z = 0 then nI (n + 1) else nI n) wm ys q qf yo ri ol (thA zs n x z) (if thA zs n x z = 0 then upd wd n x else wd) (if thA zs n x z = 0 then upd zs n z else zs) h kp) := by rw [show thA zs n x z = 0 from by unfold thA; rw [if_neg (fun h9 => h9.elim (fun h9 => h9.elim c1 c6) (fun h9 => h9.elim (fun h9 => h9.elim c12 c18) (fun h8 => c40 h8.2))), if_neg c64], if_pos rfl, if_pos rfl, if_pos rfl]; exact hD
                exact W.iret hx hb hr (fun t ht hW => ⟨⟨_, (), rfl, by rw [show thA zs n x z = 0 from by unfold thA; rw [if_neg (fun h9 => h9.elim (fun h9 => h9.elim c1 c6) (fun h9 => h9.elim (fun h9 => h9.elim c12 c18) (fun h8 => c40 h8.2))), if_neg c64], if_pos rfl]; exact nI_p (n := n + 1) (by omega), by rw [ht]; exact hP, va_K.moved hW.alike hK, hD⟩, hS.F ht⟩) hS.2.2 dX3_add_120
              · refine lv_iconst (v := 2) hx hb dX3_add_67 (by decide) ?_
                refine lv_goto (tgt := 72) hx hb dX3_add_68 (by decide) ?_
                refine va_put (D := D) (ci := 3) (v := .int 2) (ty := .int) (C := RX3) (T := TX3) (N := 13) hx hb hts (by decide +kernel) tyX3 tyX3_ok nmX3 hown hK hP hD hS (0) rfl rfl 12 (by decide) (hts (.fieldLink RX3 30 "VinegarLoftModel" "thrown" "I") (by decide +kernel)) (fun _ h9 => h9) rfl (by decide +kernel) rfl rfl (Nat.le_of_ble_eq_true rfl) dX3_add_72 (fun H locs hP hD hS => ?_)
                have hP : va_P D vwCl (modW y aw az ah ak cI cD (nI n) wm ys q qf yo ri ol 2 wd zs h kp) H := hP
                have hD : va_D A (modW y aw az ah ak cI cD (nI n) wm ys q qf yo ri ol 2 wd zs h kp) := hD
                refine lv_aload_n hx hb dX3_add_75 rfl (lv_at hl 1 rfl) ?_
                refine va_get (D := D) (ci := 3) (v := .int 2) (C := RX3) (T := TX3) (N := 13) hx hb hts (by decide +kernel) hown hK hP (0) rfl rfl 12 (by decide) (hts (.fieldLink RX3 30 "VinegarLoftModel" "thrown" "I") (by decide +kernel)) (fun _ h9 => h9) rfl dX3_add_76 ?_
                refine lv_if_eq (tgt := 84) hx hb dX3_add_79 (by decide) (fun c79 => absurd c79 (by decide)) (fun c79 => ?_)
                refine lv_iconst (v := 0) hx hb dX3_add_82 (by decide) ?_
                have hP : va_P D vwCl (modW y aw az ah ak cI cD (if thA zs n x z = 0 then nI (n + 1) else nI n) wm ys q qf yo ri ol (thA zs n x z) (if thA zs n x z = 0 then upd wd n x else wd) (if thA zs n x z = 0 then upd zs n z else zs) h kp) H := by rw [show thA zs n x z = 2 from by unfold thA; rw [if_neg (fun h9 => h9.elim (fun h9 => h9.elim c1 c6) (fun h9 => h9.elim (fun h9 => h9.elim c12 c18) (fun h8 => c40 h8.2))), if_pos c64], if_neg (by decide), if_neg (by decide), if_neg (by decide)]; exact hP
                have hD : va_D A (modW y aw az ah ak cI cD (if thA zs n x z = 0 then nI (n + 1) else nI n) wm ys q qf yo ri ol (thA zs n x z) (if thA zs n x z = 0 then upd wd n x else wd) (if thA zs n x z = 0 then upd zs n z else zs) h kp) := by rw [show thA zs n x z = 2 from by unfold thA; rw [if_neg (fun h9 => h9.elim (fun h9 => h9.elim c1 c6) (fun h9 => h9.elim (fun h9 => h9.elim c12 c18) (fun h8 => c40 h8.2))), if_pos c64], if_neg (by decide), if_neg (by decide), if_neg (by decide)]; exact hD
                exact W.iret hx hb hr (fun t ht hW => ⟨⟨_, (), rfl, by rw [show thA zs n x z = 2 from by unfold thA; rw [if_neg (fun h9 => h9.elim (fun h9 => h9.elim c1 c6) (fun h9 => h9.elim (fun h9 => h9.elim c12 c18) (fun h8 => c40 h8.2))), if_pos c64], if_neg (by decide)], by rw [ht]; exact hP, va_K.moved hW.alike hK, hD⟩, hS.F ht⟩) hS.2.2 dX3_add_83

set_option maxHeartbeats 4000000 in
set_option maxRecDepth 100000 in
theorem metX3_fill (l : Launch) (D : va_G) (sz : Nat) (y aw az ah ak : Nat) (cI cD : ClassId) (n : Nat) (hn : n ≤ 8) (wm ys : Int32) (q : UInt64) (qf yo ri ol th : Int32) (wd zs : Nat → Int32) (h kp : Nat → UInt64) (x : Int32) (hp : ¬ badR 1 100 x → n ≠ 0 → pook (zs 0) h (FP.i2d x)) : Met l yX3_fill wsX3_fill { frames := 3, cells := 0, slots := 0, locals := 81 } (Pm D [(cI, .int), (cD, .double)] [.ref y, .int x] (modW y aw az ah ak cI cD (nI n) wm ys q qf yo ri ol th wd zs h kp) sz) (va_Qd (fun (r : UInt64) (_ : Unit) => r = if thR 1 100 x = 0 then pmR n zs h (FP.i2d x) else 0) (Bm D [(cI, .int), (cD, .double)] (va_A (modW y aw az ah ak cI cD (nI n) wm ys q qf yo ri ol th wd zs h kp) sz) (modW y aw az ah ak cI cD (nI n) wm ys q qf yo ri ol (thR 1 100 x) wd zs (if thR 1 100 x = 0 then pmH n zs h (FP.i2d x) else h) kp)) (va_A (modW y aw az ah ak cI cD (nI n) wm ys q qf yo ri ol th wd zs h kp) sz)) 0 0 (va_A (modW y aw az ah ak cI cD (nI n) wm ys q qf yo ri ol th wd zs h kp) sz) := by
  refine Met.ofW (cc := cX3_fill) (maxL := 2) (ret := (some .double)) (by decide) rfl ?_
  intro p e s m args below meth c s₁ B hml hv
  obtain ⟨rfl, hsz, hP, hK, hD0⟩ := hv
  have hx := B.exec
  have hb := B.bytes
  have hr := B.returns
  have hts := atoms_spec (ws := wsX3_fill) B.pre
  have hown : s.vm.findClass RX3 = some m.cls := findClass_of_methodNamed B.named
  have hlocks := B.notSynchronized
  subst hsz
  have hD := hD0.self (sz := s.heap.size)
  generalize hAe : va_A (modW y aw az ah ak cI cD (nI n) wm ys q qf yo ri ol th wd zs h kp) s.heap.size = A at hD ⊢
  have hA : ∀ q : Nat, s.heap.size ≤ q → A q := fun q h => by rw [← hAe]; exact Or.inr h
  refine kW_H (fun H hH => ?_)
  have hP : va_P D vwCl (modW y aw az ah ak cI cD (nI n) wm ys q qf yo ri ol th wd zs h kp) H := by rw [hH]; exact hP
  have hS : va_S A s.heap H [] := by rw [hH]; exact va_S.rf
  have hl := lv_entry ([.ref y, .int x]) (n := 2) (Nat.le_of_ble_eq_true rfl)
  rw [lg_entry_eq]
  generalize (lg_sl ([.ref y, .int x]) ++ List.replicate (2 - (lg_sl ([.ref y, .int x])).length) Slot.unset).toArray = ls at hl ⊢
  have hl : lv_has ls 2 [(0, .ref y), (1, .int x)] := hl
  refine lv_aload_n hx hb dX3_fill_0 rfl (lv_at hl 0 rfl) ?_
  refine lv_iload_n hx hb dX3_fill_1 rfl (lv_at hl 1 rfl) ?_
  refine lv_iconst (v := 1) hx hb dX3_fill_2 (by decide) ?_
  refine lv_icmp_lt (tgt := 16) hx hb dX3_fill_3 (by decide) (fun c3 => ?_) (fun c3 => ?_)
  · refine lv_iconst (v := 1) hx hb dX3_fill_16 (by decide) ?_
    refine va_put (D := D) (ci := 3) (v := .int 1) (ty := .int) (C := RX3) (T := TX3) (N := 13) hx hb hts (by decide +kernel) tyX3 tyX3_ok nmX3 hown hK hP hD hS (0) rfl rfl 12 (by decide) (hts (.fieldLink RX3 30 "VinegarLoftModel" "thrown" "I") (by decide +kernel)) (fun _ h9 => h9) rfl (by decide +kernel) rfl rfl (Nat.le_of_ble_eq_true rfl) dX3_fill_17 (fun H locs hP hD hS => ?_)
    have hP : va_P D vwCl (modW y aw az ah ak cI cD (nI n) wm ys q qf yo ri ol 1 wd zs h kp) H := hP
    have hD : va_D A (modW y aw az ah ak cI cD (nI n) wm ys q qf yo ri ol 1 wd zs h kp) := hD
    refine lv_aload_n hx hb dX3_fill_20 rfl (lv_at hl 0 rfl) ?_
    refine va_get (D := D) (ci := 3) (v := .int 1) (C := RX3) (T := TX3) (N := 13) hx hb hts (by decide +kernel) hown hK hP (0) rfl rfl 12 (by decide) (hts (.fieldLink RX3 30 "VinegarLoftModel" "thrown" "I") (by decide +kernel)) (fun _ h9 => h9) rfl dX3_fill_21 ?_
    refine lv_if_ne (tgt := 34) hx hb dX3_fill_24 (by decide) (fun c24 => ?_) (fun c24 => absurd c24 (by decide))
    refine kd_0 hx hb dX3_fill_34 ?_
    refine lv_goto (tgt := 51) hx hb dX3_fill_35 (by decide) ?_
    have hP : va_P D vwCl (modW y aw az ah ak cI cD (nI n) wm ys q qf yo ri ol (thR 1 100 x) wd zs (if thR 1 100 x = 0 then pmH n zs h (FP.i2d x) else h) kp) H := by rw [show thR 1 100 x = 1 from if_pos (Or.inl c3), if_neg (by decide)]; exact hP
    have hD : va_D A (modW y aw az ah ak cI cD (nI n) wm ys q qf yo ri ol (thR 1 100 x) wd zs (if thR 1 100 x = 0 then pmH n zs h (FP.i2d x) else h) kp) := by rw [show thR 1 100 x = 1 from if_pos (Or.inl c3), if_neg (by decide)]; exact hD
    exact W.dret hx hb hr (fun t ht hW => ⟨⟨_, (), rfl, by rw [show thR 1 100 x = 1 from if_pos (Or.inl c3), if_neg (by decide)], by rw [ht]; exact hP, va_K.moved hW.alike hK, hD⟩, hS.F ht⟩) hS.2.2 dX3_fill_51
  · refine lv_iload_n hx hb dX3_fill_6 rfl (lv_at hl 1 rfl) ?_
    refine lv_bipush (v := 100) hx hb dX3_fill_7 (by decide) ?_
    refine lv_icmp_gt (tgt := 16) hx hb dX3_fill_9 (by decide) (fun c9 => ?_) (fun c9 => ?_)
    · refine lv_iconst (v := 1) hx hb dX3_fill_16 (by decide) ?_
      refine va_put (D := D) (ci := 3) (v := .int 1) (ty := .int) (C := RX3) (T := TX3) (N := 13) hx hb hts (by decide +kernel) tyX3 tyX3_ok nmX3 hown hK hP hD hS (0) rfl rfl 12 (by decide) (hts (.fieldLink RX3 30 "VinegarLoftModel" "thrown" "I") (by decide +kernel)) (fun _ h9 => h9) rfl (by decide +kernel) rfl rfl (Nat.le_of_ble_eq_true rfl) dX3_fill_17 (fun H locs hP hD hS => ?_)
      have hP : va_P D vwCl (modW y aw az ah ak cI cD (nI n) wm ys q qf yo ri ol 1 wd zs h kp) H := hP
      have hD : va_D A (modW y aw az ah ak cI cD (nI n) wm ys q qf yo ri ol 1 wd zs h kp) := hD
      refine lv_aload_n hx hb dX3_fill_20 rfl (lv_at hl 0 rfl) ?_
      refine va_get (D := D) (ci := 3) (v := .int 1) (C := RX3) (T := TX3) (N := 13) hx hb hts (by decide +kernel) hown hK hP (0) rfl rfl 12 (by decide) (hts (.fieldLink RX3 30 "VinegarLoftModel" "thrown" "I") (by decide +kernel)) (fun _ h9 => h9) rfl dX3_fill_21 ?_
      refine lv_if_ne (tgt := 34) hx hb dX3_fill_24 (by decide) (fun c24 => ?_) (fun c24 => absurd c24 (by decide))
      refine kd_0 hx hb dX3_fill_34 ?_
      refine lv_goto (tgt := 51) hx hb dX3_fill_35 (by decide) ?_
      have hP : va_P D vwCl (modW y aw az ah ak cI cD (nI n) wm ys q qf yo ri ol (thR 1 100 x) wd zs (if thR 1 100 x = 0 then pmH n zs h (FP.i2d x) else h) kp) H := by rw [show thR 1 100 x = 1 from if_pos (Or.inr c9), if_neg (by decide)]; exact hP
      have hD : va_D A (modW y aw az ah ak cI cD (nI n) wm ys q qf yo ri ol (thR 1 100 x) wd zs (if thR 1 100 x = 0 then pmH n zs h (FP.i2d x) else h) kp) := by rw [show thR 1 100 x = 1 from if_pos (Or.inr c9), if_neg (by decide)]; exact hD
      exact W.dret hx hb hr (fun t ht hW => ⟨⟨_, (), rfl, by rw [show thR 1 100 x = 1 from if_pos (Or.inr c9), if_neg (by decide)], by rw [ht]; exact hP, va_K.moved hW.alike hK, hD⟩, hS.F ht⟩) hS.2.2 dX3_fill_51
    · refine lv_iconst (v := 0) hx hb dX3_fill_12 (by decide) ?_
      refine lv_goto (tgt := 17) hx hb dX3_fill_13 (by decide) ?_
      refine va_put (D := D) (ci := 3) (v := .int 0) (ty := .int) (C := RX3) (T := TX3) (N := 13) hx hb hts (by decide +kernel) tyX3 tyX3_ok nmX3 hown hK hP hD hS (0) rfl rfl 12 (by decide) (hts (.fieldLink RX3 30 "VinegarLoftModel" "thrown" "I") (by decide +kernel)) (fun _ h9 => h9) rfl (by decide +kernel) rfl rfl (Nat.le_of_ble_eq_true rfl) dX3_fill_17 (fun H locs hP hD hS => ?_)
      have hP : va_P D vwCl (modW y aw az ah ak cI cD (nI n) wm ys q qf yo ri ol 0 wd zs h kp) H := hP
      have hD : va_D A (modW y aw az ah ak cI cD (nI n) wm ys q qf yo ri ol 0 wd zs h kp) := hD
      refine lv_aload_n hx hb dX3_fill_20 rfl (lv_at hl 0 rfl) ?_
      refine va_get (D := D) (ci := 3) (v := .int 0) (C := RX3) (T := TX3) (N := 13) hx hb hts (by decide +kernel) hown hK hP (0) rfl rfl 12 (by decide) (hts (.fieldLink RX3 30 "VinegarLoftModel" "thrown" "I") (by decide +kernel)) (fun _ h9 => h9) rfl dX3_fill_21 ?_
      refine lv_if_ne (tgt := 34) hx hb dX3_fill_24 (by decide) (fun c24 => absurd c24 (fun h9 => h9 rfl)) (fun c24 => ?_)
      refine lv_aload_n hx hb dX3_fill_27 rfl (lv_at hl 0 rfl) ?_
      refine va_get (D := D) (ci := 3) (v := .int (nI n)) (C := RX3) (T := TX3) (N := 13) hx hb hts (by decide +kernel) hown hK hP (0) rfl rfl 4 (by decide) (hts (.fieldLink RX3 33 "VinegarLoftModel" "many" "I") (by decide +kernel)) (fun _ h9 => h9) rfl dX3_fill_28 ?_
      refine lv_if_ne (tgt := 38) hx hb dX3_fill_31 (by decide) (fun c31 => ?_) (fun c31 => ?_)
      · have h0 : n ≠ 0 := fun h9 => c31 (by rw [h9]; rfl)
        obtain ⟨p1, p2, p3, p4⟩ := hp (fun h9 => h9.elim c3 c9) h0
        refine lv_aload_n hx hb dX3_fill_38 rfl (lv_at hl 0 rfl) ?_
        refine lv_iload_n hx hb dX3_fill_39 rfl (lv_at hl 1 rfl) ?_
        refine lv_i2d hx hb dX3_fill_40 ?_
        refine lv_aload_n hx hb dX3_fill_41 rfl (lv_at hl 0 rfl) ?_
        refine kr_d (W.runV (As := []) (rest := [.double (FP.i2d x), .ref y]) ⟨hx, hb, hml, hown, hts⟩ (metX3_room l D y aw az ah ak cI cD n (by omega) wm ys q qf yo ri ol 0 wd zs h kp p1) (cwV 0 hts gX3_fill_X3_room rfl rfl rfl (by decide +kernel) ⟨Nat.le_of_ble_eq_true rfl, Nat.le_of_ble_eq_true rfl⟩) (prV 3 0 RX3 TX3 13 rfl rfl hP hK) rfl rfl hl.1 rfl (lv_room (Nat.le_of_ble_eq_true rfl)) dX3_fill_42 ⟨Nat.le_of_ble_eq_true rfl, Nat.le_of_ble_eq_true rfl⟩) ?_
        refine kr_d (W.runS (As := [.double (FP.i2d x), .double (FP.dsub (FP.i2d (zs 0)) (h 0))]) (rest := [.ref y]) ⟨hx, hb, hml, hown, hts⟩ (metX3_lesser l D (FP.i2d x) (FP.dsub (FP.i2d (zs 0)) (h 0)) p2) (va_cwS 2 hts gX3_fill_X3_lesser rfl rfl rfl (by decide +kernel) ⟨Nat.le_of_ble_eq_true rfl, Nat.le_of_ble_eq_true rfl⟩) (prS (ws := []) (tys := []) (fun k q h => by simp at h) (hK.sub [] rfl)) rfl rfl hl.1 rfl (lv_room (Nat.le_of_ble_eq_true rfl)) dX3_fill_45 ⟨Nat.le_of_ble_eq_true rfl, Nat.le_of_ble_eq_true rfl⟩) ?_
        refine kd_eq (show (lesv (FP.i2d x) (FP.dsub (FP.i2d (zs 0)) (h 0))) = musv (zs 0) (h 0) (FP.i2d x) from rfl) ?_
        refine kw_d (va_runV (As := [.double (musv (zs 0) (h 0) (FP.i2d x))]) (rest := []) ⟨hx, hb, hml, hown, hts⟩ (metX3_pours l D H.size y aw az ah ak cI cD n (by omega) wm ys q qf yo ri ol 0 wd zs h kp (musv (zs 0) (h 0) (FP.i2d x)) p3 p4) (cwV 1 hts gX3_fill_X3_pours rfl rfl rfl (by decide +kernel) ⟨Nat.le_of_ble_eq_true rfl, Nat.le_of_ble_eq_true rfl⟩) (pmV 3 0 RX3 TX3 13 rfl rfl hP hK hD) rfl rfl hl.1 rfl (lv_room (Nat.le_of_ble_eq_true rfl)) dX3_fill_48 ⟨Nat.le_of_ble_eq_true rfl, Nat.le_of_ble_eq_true rfl⟩) hP hD hS hA (fun H locs hP hD hS => ?_)
        have hP : va_P D vwCl (modW y aw az ah ak cI cD (nI n) wm ys q qf yo ri ol 0 wd zs (poH h (musv (zs 0) (h 0) (FP.i2d x))) kp) H := hP
        have hD : va_D A (modW y aw az ah ak cI cD (nI n) wm ys q qf yo ri ol 0 wd zs (poH h (musv (zs 0) (h 0) (FP.i2d x))) kp) := hD
        have hP : va_P D vwCl (modW y aw az ah ak cI cD (nI n) wm ys q qf yo ri ol (thR 1 100 x) wd zs (if thR 1 100 x = 0 then pmH n zs h (FP.i2d x) else h) kp) H := by rw [show thR 1 100 x = 0 from if_neg (fun h9 => h9.elim c3 c9), if_pos rfl]; unfold pmH; rw [if_neg h0]; exact hP
        have hD : va_D A (modW y aw az ah ak cI cD (nI n) wm ys q qf yo ri ol (thR 1 100 x) wd zs (if thR 1 100 x = 0 then pmH n zs h (FP.i2d x) else h) kp) := by rw [show thR 1 100 x = 0 from if_neg (fun h9 => h9.elim c3 c9), if_pos rfl]; unfold pmH; rw [if_neg h0]; exact hD
        exact W.dret hx hb hr (fun t ht hW => ⟨⟨_, (), rfl, by rw [show thR 1 100 x = 0 from if_neg (fun h9 => h9.elim c3 c9), if_pos rfl]; unfold pmR; rw [if_neg h0], by rw [ht]; exact hP, va_K.moved hW.alike hK, hD⟩, hS.F ht⟩) hS.2.2 dX3_fill_51
      · have h0 : n = 0 := (nI_e0 (by omega)).mp c31
        refine kd_0 hx hb dX3_fill_34 ?_
        refine lv_goto (tgt := 51) hx hb dX3_fill_35 (by decide) ?_
        have hP : va_P D vwCl (modW y aw az ah ak cI cD (nI n) wm ys q qf yo ri ol (thR 1 100 x) wd zs (if thR 1 100 x = 0 then pmH n zs h (FP.i2d x) else h) kp) H := by rw [show thR 1 100 x = 0 from if_neg (fun h9 => h9.elim c3 c9), if_pos rfl]; unfold pmH; rw [if_pos h0]; exact hP
        have hD : va_D A (modW y aw az ah ak cI cD (nI n) wm ys q qf yo ri ol (thR 1 100 x) wd zs (if thR 1 100 x = 0 then pmH n zs h (FP.i2d x) else h) kp) := by rw [show thR 1 100 x = 0 from if_neg (fun h9 => h9.elim c3 c9), if_pos rfl]; unfold pmH; rw [if_pos h0]; exact hD
        exact W.dret hx hb hr (fun t ht hW => ⟨⟨_, (), rfl, by rw [show thR 1 100 x = 0 from if_neg (fun h9 => h9.elim c3 c9), if_pos rfl]; unfold pmR; rw [if_pos h0], by rw [ht]; exact hP, va_K.moved hW.alike hK, hD⟩, hS.F ht⟩) hS.2.2 dX3_fill_51

set_option maxHeartbeats 4000000 in
set_option maxRecDepth 100000 in
theorem metX3_topUp (l : Launch) (D : va_G) (sz : Nat) (y aw az ah ak : Nat) (cI cD : ClassId) (n : Nat) (hn : n ≤ 8) (wm ys : Int32) (q : UInt64) (qf yo ri ol th : Int32) (wd zs : Nat → Int32) (h kp : Nat → UInt64) (ht : took zs (n - 1) h 0) (hu : tukk zs (n - 1) h) : Met l yX3_topUp wsX3_topUp { frames := 3, cells := 0, slots := 0, locals := 86 } (Pm D [(cI, .int), (cD, .double)] [.ref y] (modW y aw az ah ak cI cD (nI n) wm ys q qf yo ri ol th wd zs h kp) sz) (va_Qd (fun (r : UInt64) (_ : Unit) => r = toS zs (n - 1) h 0) (Bm D [(cI, .int), (cD, .double)] (va_A (modW y aw az ah ak cI cD (nI n) wm ys q qf yo ri ol th wd zs h kp) sz) (modW y aw az ah ak cI cD (nI n) wm ys q qf yo ri ol 0 wd zs (toH zs (n - 1) h) kp)) (va_A (modW y aw az ah ak cI cD (nI n) wm ys q qf yo ri ol th wd zs h kp) sz)) 0 0 (va_A (modW y aw az ah ak cI cD (nI n) wm ys q qf yo ri ol th wd zs h kp) sz) := by
  refine Met.ofW (cc := cX3_topUp) (maxL := 1) (ret := (some .double)) (by decide) rfl ?_
  intro p e s m args below meth c s₁ B hml hv
  obtain ⟨rfl, hsz, hP, hK, hD0⟩ := hv
  have hx := B.exec
  have hb := B.bytes
  have hr := B.returns
  have hts := atoms_spec (ws := wsX3_topUp) B.pre
  have hown : s.vm.findClass RX3 = some m.cls := findClass_of_methodNamed B.named
  have hlocks := B.notSynchronized
  subst hsz
  have hD := hD0.self (sz := s.heap.size)
  generalize hAe : va_A (modW y aw az ah ak cI cD (nI n) wm ys q qf yo ri ol th wd zs h kp) s.heap.size = A at hD ⊢
  have hA : ∀ q : Nat, s.heap.size ≤ q → A q := fun q h => by rw [← hAe]; exact Or.inr h
  refine kW_H (fun H hH => ?_)
  have hP : va_P D vwCl (modW y aw az ah ak cI cD (nI n) wm ys q qf yo ri ol th wd zs h kp) H := by rw [hH]; exact hP
  have hS : va_S A s.heap H [] := by rw [hH]; exact va_S.rf
  have hl := lv_entry ([.ref y]) (n := 1) (Nat.le_of_ble_eq_true rfl)
  rw [lg_entry_eq]
  generalize (lg_sl ([.ref y]) ++ List.replicate (1 - (lg_sl ([.ref y])).length) Slot.unset).toArray = ls at hl ⊢
  have hl : lv_has ls 1 [(0, .ref y)] := hl
  refine lv_aload_n hx hb dX3_topUp_0 rfl (lv_at hl 0 rfl) ?_
  refine lv_iconst (v := 0) hx hb dX3_topUp_1 (by decide) ?_
  refine va_put (D := D) (ci := 3) (v := .int 0) (ty := .int) (C := RX3) (T := TX3) (N := 13) hx hb hts (by decide +kernel) tyX3 tyX3_ok nmX3 hown hK hP hD hS (0) rfl rfl 12 (by decide) (hts (.fieldLink RX3 30 "VinegarLoftModel" "thrown" "I") (by decide +kernel)) (fun _ h9 => h9) rfl (by decide +kernel) rfl rfl (Nat.le_of_ble_eq_true rfl) dX3_topUp_2 (fun H locs hP hD hS => ?_)
  have hP : va_P D vwCl (modW y aw az ah ak cI cD (nI n) wm ys q qf yo ri ol 0 wd zs h kp) H := hP
  have hD : va_D A (modW y aw az ah ak cI cD (nI n) wm ys q qf yo ri ol 0 wd zs h kp) := hD
  refine lv_aload_n hx hb dX3_topUp_5 rfl (lv_at hl 0 rfl) ?_
  refine kw_d (va_runV (As := []) (rest := []) ⟨hx, hb, hml, hown, hts⟩ (metX3_topsUp l D H.size y aw az ah ak cI cD n (by omega) wm ys q qf yo ri ol 0 wd zs h kp ht hu) (cwV 0 hts gX3_topUp_X3_topsUp rfl rfl rfl (by decide +kernel) ⟨Nat.le_of_ble_eq_true rfl, Nat.le_of_ble_eq_true rfl⟩) (pmV 3 0 RX3 TX3 13 rfl rfl hP hK hD) rfl rfl hl.1 rfl (lv_room (Nat.le_of_ble_eq_true rfl)) dX3_topUp_6 ⟨Nat.le_of_ble_eq_true rfl, Nat.le_of_ble_eq_true rfl⟩) hP hD hS hA (fun H locs hP hD hS => ?_)
  have hP : va_P D vwCl (modW y aw az ah ak cI cD (nI n) wm ys q qf yo ri ol 0 wd zs (toH zs (n - 1) h) kp) H := hP
  have hD : va_D A (modW y aw az ah ak cI cD (nI n) wm ys q qf yo ri ol 0 wd zs (toH zs (n - 1) h) kp) := hD
  exact W.dret hx hb hr (fun t ht hW => ⟨⟨_, (), rfl, rfl, by rw [ht]; exact hP, va_K.moved hW.alike hK, hD⟩, hS.F ht⟩) hS.2.2 dX3_topUp_9

set_option maxHeartbeats 4000000 in
set_option maxRecDepth 100000 in
theorem metX3_year (l : Launch) (D : va_G) (sz : Nat) (y aw az ah ak : Nat) (cI cD : ClassId) (n : Nat) (hn : n ≤ 8) (wm ys : Int32) (q : UInt64) (qf yo ri ol th : Int32) (wd zs : Nat → Int32) (h kp : Nat → UInt64) (hdr : drok wm) (hok : agok wd (drv wm) h n) (hnn : agNN wd (drv wm) h n) (hN : NNr n (agH wd (drv wm) h n)) (hq : ∀ b, b < n → vf_n64 (FP.dmul 4598175219545276416 ((agH wd (drv wm) h n) b))) : Met l yX3_year wsX3_year { frames := 3, cells := 0, slots := 0, locals := 73 } (Pm D [(cI, .int), (cD, .double)] [.ref y] (modW y aw az ah ak cI cD (nI n) wm ys q qf yo ri ol th wd zs h kp) sz) (va_Qd (fun (r : UInt64) (_ : Unit) => r = agS wd (drv wm) h n) (Bm D [(cI, .int), (cD, .double)] (va_A (modW y aw az ah ak cI cD (nI n) wm ys q qf yo ri ol th wd zs h kp) sz) (modW y aw az ah ak cI cD (nI n) wm (ys + 1) (quv (agH wd (drv wm) h n) (elO (agH wd (drv wm) h n) n)) (encO (elO (agH wd (drv wm) h n) n)) yo ri ol 0 wd zs (agH wd (drv wm) h n) kp)) (va_A (modW y aw az ah ak cI cD (nI n) wm ys q qf yo ri ol th wd zs h kp) sz)) 0 0 (va_A (modW y aw az ah ak cI cD (nI n) wm ys q qf yo ri ol th wd zs h kp) sz) := by
  refine Met.ofW (cc := cX3_year) (maxL := 1) (ret := (some .double)) (by decide) rfl ?_
  intro p e s m args below meth c s₁ B hml hv
  obtain ⟨rfl, hsz, hP, hK, hD0⟩ := hv
  have hx := B.exec
  have hb := B.bytes
  have hr := B.returns
  have hts := atoms_spec (ws := wsX3_year) B.pre
  have hown : s.vm.findClass RX3 = some m.cls := findClass_of_methodNamed B.named
  have hlocks := B.notSynchronized
  subst hsz
  have hD := hD0.self (sz := s.heap.size)
  generalize hAe : va_A (modW y aw az ah ak cI cD (nI n) wm ys q qf yo ri ol th wd zs h kp) s.heap.size = A at hD ⊢
  have hA : ∀ q : Nat, s.heap.size ≤ q → A q := fun q h => by rw [← hAe]; exact Or.inr h
  refine kW_H (fun H hH => ?_)
  have hP : va_P D vwCl (modW y aw az ah ak cI cD (nI n) wm ys q qf yo ri ol th wd zs h kp) H := by rw [hH]; exact hP
  have hS : va_S A s.heap H [] := by rw [hH]; exact va_S.rf
  have hl := lv_entry ([.ref y]) (n := 1) (Nat.le_of_ble_eq_true rfl)
  rw [lg_entry_eq]
  generalize (lg_sl ([.ref y]) ++ List.replicate (1 - (lg_sl ([.ref y])).length) Slot.unset).toArray = ls at hl ⊢
  have hl : lv_has ls 1 [(0, .ref y)] := hl
  refine lv_aload_n hx hb dX3_year_0 rfl (lv_at hl 0 rfl) ?_
  refine lv_iconst (v := 0) hx hb dX3_year_1 (by decide) ?_
  refine va_put (D := D) (ci := 3) (v := .int 0) (ty := .int) (C := RX3) (T := TX3) (N := 13) hx hb hts (by decide +kernel) tyX3 tyX3_ok nmX3 hown hK hP hD hS (0) rfl rfl 12 (by decide) (hts (.fieldLink RX3 30 "VinegarLoftModel" "thrown" "I") (by decide +kernel)) (fun _ h9 => h9) rfl (by decide +kernel) rfl rfl (Nat.le_of_ble_eq_true rfl) dX3_year_2 (fun H locs hP hD hS => ?_)
  have hP : va_P D vwCl (modW y aw az ah ak cI cD (nI n) wm ys q qf yo ri ol 0 wd zs h kp) H := hP
  have hD : va_D A (modW y aw az ah ak cI cD (nI n) wm ys q qf yo ri ol 0 wd zs h kp) := hD
  refine lv_aload_n hx hb dX3_year_5 rfl (lv_at hl 0 rfl) ?_
  refine kw_d (va_runV (As := []) (rest := []) ⟨hx, hb, hml, hown, hts⟩ (metX3_passes l D H.size y aw az ah ak cI cD n (by omega) wm ys q qf yo ri ol 0 wd zs h kp hdr hok hnn hN hq) (cwV 0 hts gX3_year_X3_passes rfl rfl rfl (by decide +kernel) ⟨Nat.le_of_ble_eq_true rfl, Nat.le_of_ble_eq_true rfl⟩) (pmV 3 0 RX3 TX3 13 rfl rfl hP hK hD) rfl rfl hl.1 rfl (lv_room (Nat.le_of_ble_eq_true rfl)) dX3_year_6 ⟨Nat.le_of_ble_eq_true rfl, Nat.le_of_ble_eq_true rfl⟩) hP hD hS hA (fun H locs hP hD hS => ?_)
  have hP : va_P D vwCl (modW y aw az ah ak cI cD (nI n) wm (ys + 1) (quv (agH wd (drv wm) h n) (elO (agH wd (drv wm) h n) n)) (encO (elO (agH wd (drv wm) h n) n)) yo ri ol 0 wd zs (agH wd (drv wm) h n) kp) H := hP
  have hD : va_D A (modW y aw az ah ak cI cD (nI n) wm (ys + 1) (quv (agH wd (drv wm) h n) (elO (agH wd (drv wm) h n) n)) (encO (elO (agH wd (drv wm) h n) n)) yo ri ol 0 wd zs (agH wd (drv wm) h n) kp) := hD
  exact W.dret hx hb hr (fun t ht hW => ⟨⟨_, (), rfl, rfl, by rw [ht]; exact hP, va_K.moved hW.alike hK, hD⟩, hS.F ht⟩) hS.2.2 dX3_year_9

set_option maxHeartbeats 4000000 in
set_option maxRecDepth 100000 in
theorem metX3_empties (l : Launch) (D : va_G) (sz : Nat) (y aw az ah ak : Nat) (cI cD : ClassId) (n : Nat) (hn : n ≤ 8) (wm ys : Int32) (q : UInt64) (qf yo ri ol th : Int32) (wd zs : Nat → Int32) (h kp : Nat → UInt64) (b : Nat) (hb8 : b < 8)  : Met l yX3_empties wsX3_empties { frames := 0, cells := 0, slots := 0, locals := 0 } (Pm D [(cI, .int), (cD, .double)] [.ref y, .int (nI b)] (modW y aw az ah ak cI cD (nI n) wm ys q qf yo ri ol th wd zs h kp) sz) (va_Qv (fun (_ : Unit) => True) (Bm D [(cI, .int), (cD, .double)] (va_A (modW y aw az ah ak cI cD (nI n) wm ys q qf yo ri ol th wd zs h kp) sz) (modW y aw az ah ak cI cD (nI n) wm ys q qf yo ri ol th wd zs (hset h b 0 0 0 0) kp)) (va_A (modW y aw az ah ak cI cD (nI n) wm ys q qf yo ri ol th wd zs h kp) sz)) 0 0 (va_A (modW y aw az ah ak cI cD (nI n) wm ys q qf yo ri ol th wd zs h kp) sz) := by
  refine Met.ofW (cc := cX3_empties) (maxL := 2) (ret := none) (by decide) rfl ?_
  intro p e s m args below meth c s₁ B hml hv
  obtain ⟨rfl, hsz, hP, hK, hD0⟩ := hv
  have hx := B.exec
  have hb := B.bytes
  have hr := B.returns
  have hts := atoms_spec (ws := wsX3_empties) B.pre
  have hown : s.vm.findClass RX3 = some m.cls := findClass_of_methodNamed B.named
  have hlocks := B.notSynchronized
  subst hsz
  have hD := hD0.self (sz := s.heap.size)
  generalize hAe : va_A (modW y aw az ah ak cI cD (nI n) wm ys q qf yo ri ol th wd zs h kp) s.heap.size = A at hD ⊢
  have hA : ∀ q : Nat, s.heap.size ≤ q → A q := fun q h => by rw [← hAe]; exact Or.inr h
  refine kW_H (fun H hH => ?_)
  have hP : va_P D vwCl (modW y aw az ah ak cI cD (nI n) wm ys q qf yo ri ol th wd zs h kp) H := by rw [hH]; exact hP
  have hS : va_S A s.heap H [] := by rw [hH]; exact va_S.rf
  have hl := lv_entry ([.ref y, .int (nI b)]) (n := 2) (Nat.le_of_ble_eq_true rfl)
  rw [lg_entry_eq]
  generalize (lg_sl ([.ref y, .int (nI b)]) ++ List.replicate (2 - (lg_sl ([.ref y, .int (nI b)])).length) Slot.unset).toArray = ls at hl ⊢
  have hl : lv_has ls 2 [(0, .ref y), (1, .int (nI b))] := hl
  refine lv_aload_n hx hb dX3_empties_0 rfl (lv_at hl 0 rfl) ?_
  refine va_get (D := D) (ci := 3) (v := .ref ah) (C := RX3) (T := TX3) (N := 13) hx hb hts (by decide +kernel) hown hK hP (0) rfl rfl 2 (by decide) (hts (.fieldLink RX3 16 "VinegarLoftModel" "holds" "[D") (by decide +kernel)) (fun _ h9 => h9) rfl dX3_empties_1 ?_
  refine lv_iconst (v := 0) hx hb dX3_empties_4 (by decide) ?_
  refine lv_iload_n hx hb dX3_empties_5 rfl (lv_at hl 1 rfl) ?_
  refine lv_iadd hx hb dX3_empties_6 ?_
  refine kd_0 hx hb dX3_empties_7 ?_
  refine kx_dast hx hb hK hP hD hS 3 1 rfl rfl (j := b) (ix0 b) (show b < 32 by omega) (by decide) dX3_empties_8 (fun H locs hP hD hS => ?_)
  have hP : va_P D vwCl (modW y aw az ah ak cI cD (nI n) wm ys q qf yo ri ol th wd zs (vf_upd h b 0) kp) H := hP
  have hD : va_D A (modW y aw az ah ak cI cD (nI n) wm ys q qf yo ri ol th wd zs (vf_upd h b 0) kp) := hD
  refine lv_aload_n hx hb dX3_empties_9 rfl (lv_at hl 0 rfl) ?_
  refine va_get (D := D) (ci := 3) (v := .ref ah) (C := RX3) (T := TX3) (N := 13) hx hb hts (by decide +kernel) hown hK hP (0) rfl rfl 2 (by decide) (hts (.fieldLink RX3 16 "VinegarLoftModel" "holds" "[D") (by decide +kernel)) (fun _ h9 => h9) rfl dX3_empties_10 ?_
  refine lv_bipush (v := 8) hx hb dX3_empties_13 (by decide) ?_
  refine lv_iload_n hx hb dX3_empties_15 rfl (lv_at hl 1 rfl) ?_
  refine lv_iadd hx hb dX3_empties_16 ?_
  refine kd_0 hx hb dX3_empties_17 ?_
  refine kx_dast hx hb hK hP hD hS 3 1 rfl rfl (j := 8 + b) (ixc 8 b) (show 8 + b < 32 by omega) (by decide) dX3_empties_18 (fun H locs hP hD hS => ?_)
  have hP : va_P D vwCl (modW y aw az ah ak cI cD (nI n) wm ys q qf yo ri ol th wd zs (vf_upd (vf_upd h b 0) (8 + b) 0) kp) H := hP
  have hD : va_D A (modW y aw az ah ak cI cD (nI n) wm ys q qf yo ri ol th wd zs (vf_upd (vf_upd h b 0) (8 + b) 0) kp) := hD
  refine lv_aload_n hx hb dX3_empties_19 rfl (lv_at hl 0 rfl) ?_
  refine va_get (D := D) (ci := 3) (v := .ref ah) (C := RX3) (T := TX3) (N := 13) hx hb hts (by decide +kernel) hown hK hP (0) rfl rfl 2 (by decide) (hts (.fieldLink RX3 16 "VinegarLoftModel" "holds" "[D") (by decide +kernel)) (fun _ h9 => h9) rfl dX3_empties_20 ?_
  refine lv_bipush (v := 16) hx hb dX3_empties_23 (by decide) ?_
  refine lv_iload_n hx hb dX3_empties_25 rfl (lv_at hl 1 rfl) ?_
  refine lv_iadd hx hb dX3_empties_26 ?_
  refine kd_0 hx hb dX3_empties_27 ?_
  refine kx_dast hx hb hK hP hD hS 3 1 rfl rfl (j := 16 + b) (ixc 16 b) (show 16 + b < 32 by omega) (by decide) dX3_empties_28 (fun H locs hP hD hS => ?_)
  have hP : va_P D vwCl (modW y aw az ah ak cI cD (nI n) wm ys q qf yo ri ol th wd zs (vf_upd (vf_upd (vf_upd h b 0) (8 + b) 0) (16 + b) 0) kp) H := hP
  have hD : va_D A (modW y aw az ah ak cI cD (nI n) wm ys q qf yo ri ol th wd zs (vf_upd (vf_upd (vf_upd h b 0) (8 + b) 0) (16 + b) 0) kp) := hD
  refine lv_aload_n hx hb dX3_empties_29 rfl (lv_at hl 0 rfl) ?_
  refine va_get (D := D) (ci := 3) (v := .ref ah) (C := RX3) (T := TX3) (N := 13) hx hb hts (by decide +kernel) hown hK hP (0) rfl rfl 2 (by decide) (hts (.fieldLink RX3 16 "VinegarLoftModel" "holds" "[D") (by decide +kernel)) (fun _ h9 => h9) rfl dX3_empties_30 ?_
  refine lv_bipush (v := 24) hx hb dX3_empties_33 (by decide) ?_
  refine lv_iload_n hx hb dX3_empties_35 rfl (lv_at hl 1 rfl) ?_
  refine lv_iadd hx hb dX3_empties_36 ?_
  refine kd_0 hx hb dX3_empties_37 ?_
  refine kx_dast hx hb hK hP hD hS 3 1 rfl rfl (j := 24 + b) (ixc 24 b) (show 24 + b < 32 by omega) (by decide) dX3_empties_38 (fun H locs hP hD hS => ?_)
  have hP : va_P D vwCl (modW y aw az ah ak cI cD (nI n) wm ys q qf yo ri ol th wd zs (vf_upd (vf_upd (vf_upd (vf_upd h b 0) (8 + b) 0) (16 + b) 0) (24 + b) 0) kp) H := hP
  have hD : va_D A (modW y aw az ah ak cI cD (nI n) wm ys q qf yo ri ol th wd zs (vf_upd (vf_upd (vf_upd (vf_upd h b 0) (8 + b) 0) (16 + b) 0) (24 + b) 0) kp) := hD
  have hP : va_P D vwCl (modW y aw az ah ak cI cD (nI n) wm ys q qf yo ri ol th wd zs (hset h b 0 0 0 0) kp) H := by rw [show hset h b 0 0 0 0 = vf_upd (vf_upd (vf_upd (vf_upd h b 0) (8 + b) 0) (16 + b) 0) (24 + b) 0 from (hset_of (show b < 8 by omega) (by rw [vu_n (show b ≠ 24 + b by omega), vu_n (show b ≠ 16 + b by omega), vu_n (show b ≠ 8 + b by omega), vu_s]) (by rw [vu_n (show 8 + b ≠ 24 + b by omega), vu_n (show 8 + b ≠ 16 + b by omega), vu_s]) (by rw [vu_n (show 16 + b ≠ 24 + b by omega), vu_s]) (by rw [vu_s]) (fun k k1 k2 k3 k4 => by rw [vu_n k4, vu_n k3, vu_n k2, vu_n k1])).symm]; exact hP
  have hD : va_D A (modW y aw az ah ak cI cD (nI n) wm ys q qf yo ri ol th wd zs (hset h b 0 0 0 0) kp) := by rw [show hset h b 0 0 0 0 = vf_upd (vf_upd (vf_upd (vf_upd h b 0) (8 + b) 0) (16 + b) 0) (24 + b) 0 from (hset_of (show b < 8 by omega) (by rw [vu_n (show b ≠ 24 + b by omega), vu_n (show b ≠ 16 + b by omega), vu_n (show b ≠ 8 + b by omega), vu_s]) (by rw [vu_n (show 8 + b ≠ 24 + b by omega), vu_n (show 8 + b ≠ 16 + b by omega), vu_s]) (by rw [vu_n (show 16 + b ≠ 24 + b by omega), vu_s]) (by rw [vu_s]) (fun k k1 k2 k3 k4 => by rw [vu_n k4, vu_n k3, vu_n k2, vu_n k1])).symm]; exact hD
  exact W.vret hx hb hr (fun t ht hW => ⟨⟨(), rfl, trivial, by rw [ht]; exact hP, va_K.moved hW.alike hK, hD⟩, hS.F ht⟩) hS.2.2 dX3_empties_39

set_option maxHeartbeats 4000000 in
set_option maxRecDepth 100000 in
theorem metX3_setWarmth (l : Launch) (D : va_G) (sz : Nat) (y aw az ah ak : Nat) (cI cD : ClassId) (n : Nat) (hn : n ≤ 8) (wm ys : Int32) (q : UInt64) (qf yo ri ol th : Int32) (wd zs : Nat → Int32) (h kp : Nat → UInt64) (x : Int32)  : Met l yX3_setWarmth wsX3_setWarmth { frames := 0, cells := 0, slots := 0, locals := 0 } (Pm D [(cI, .int), (cD, .double)] [.ref y, .int x] (modW y aw az ah ak cI cD (nI n) wm ys q qf yo ri ol th wd zs h kp) sz) (va_Qv (fun (_ : Unit) => True) (Bm D [(cI, .int), (cD, .double)] (va_A (modW y aw az ah ak cI cD (nI n) wm ys q qf yo ri ol th wd zs h kp) sz) (modW y aw az ah ak cI cD (nI n) (if thR 0 40 x = 0 then x else wm) ys q qf yo ri ol (thR 0 40 x) wd zs h kp)) (va_A (modW y aw az ah ak cI cD (nI n) wm ys q qf yo ri ol th wd zs h kp) sz)) 0 0 (va_A (modW y aw az ah ak cI cD (nI n) wm ys q qf yo ri ol th wd zs h kp) sz) := by
  refine Met.ofW (cc := cX3_setWarmth) (maxL := 2) (ret := none) (by decide) rfl ?_
  intro p e s m args below meth c s₁ B hml hv
  obtain ⟨rfl, hsz, hP, hK, hD0⟩ := hv
  have hx := B.exec
  have hb := B.bytes
  have hr := B.returns
  have hts := atoms_spec (ws := wsX3_setWarmth) B.pre
  have hown : s.vm.findClass RX3 = some m.cls := findClass_of_methodNamed B.named
  have hlocks := B.notSynchronized
  subst hsz
  have hD := hD0.self (sz := s.heap.size)
  generalize hAe : va_A (modW y aw az ah ak cI cD (nI n) wm ys q qf yo ri ol th wd zs h kp) s.heap.size = A at hD ⊢
  have hA : ∀ q : Nat, s.heap.size ≤ q → A q := fun q h => by rw [← hAe]; exact Or.inr h
  refine kW_H (fun H hH => ?_)
  have hP : va_P D vwCl (modW y aw az ah ak cI cD (nI n) wm ys q qf yo ri ol th wd zs h kp) H := by rw [hH]; exact hP
  have hS : va_S A s.heap H [] := by rw [hH]; exact va_S.rf
  have hl := lv_entry ([.ref y, .int x]) (n := 2) (Nat.le_of_ble_eq_true rfl)
  rw [lg_entry_eq]
  generalize (lg_sl ([.ref y, .int x]) ++ List.replicate (2 - (lg_sl ([.ref y, .int x])).length) Slot.unset).toArray = ls at hl ⊢
  have hl : lv_has ls 2 [(0, .ref y), (1, .int x)] := hl
  refine lv_aload_n hx hb dX3_setWarmth_0 rfl (lv_at hl 0 rfl) ?_
  refine lv_iload_n hx hb dX3_setWarmth_1 rfl (lv_at hl 1 rfl) ?_
  refine lv_if_lt (tgt := 15) hx hb dX3_setWarmth_2 (by decide) (fun c2 => ?_) (fun c2 => ?_)
  · refine lv_iconst (v := 1) hx hb dX3_setWarmth_15 (by decide) ?_
    refine va_put (D := D) (ci := 3) (v := .int 1) (ty := .int) (C := RX3) (T := TX3) (N := 13) hx hb hts (by decide +kernel) tyX3 tyX3_ok nmX3 hown hK hP hD hS (0) rfl rfl 12 (by decide) (hts (.fieldLink RX3 30 "VinegarLoftModel" "thrown" "I") (by decide +kernel)) (fun _ h9 => h9) rfl (by decide +kernel) rfl rfl (Nat.le_of_ble_eq_true rfl) dX3_setWarmth_16 (fun H locs hP hD hS => ?_)
    have hP : va_P D vwCl (modW y aw az ah ak cI cD (nI n) wm ys q qf yo ri ol 1 wd zs h kp) H := hP
    have hD : va_D A (modW y aw az ah ak cI cD (nI n) wm ys q qf yo ri ol 1 wd zs h kp) := hD
    refine lv_aload_n hx hb dX3_setWarmth_19 rfl (lv_at hl 0 rfl) ?_
    refine lv_aload_n hx hb dX3_setWarmth_20 rfl (lv_at hl 0 rfl) ?_
    refine va_get (D := D) (ci := 3) (v := .int 1) (C := RX3) (T := TX3) (N := 13) hx hb hts (by decide +kernel) hown hK hP (0) rfl rfl 12 (by decide) (hts (.fieldLink RX3 30 "VinegarLoftModel" "thrown" "I") (by decide +kernel)) (fun _ h9 => h9) rfl dX3_setWarmth_21 ?_
    refine lv_if_ne (tgt := 31) hx hb dX3_setWarmth_24 (by decide) (fun c24 => ?_) (fun c24 => absurd c24 (by decide))
    refine lv_aload_n hx hb dX3_setWarmth_31 rfl (lv_at hl 0 rfl) ?_
    refine va_get (D := D) (ci := 3) (v := .int wm) (C := RX3) (T := TX3) (N := 13) hx hb hts (by decide +kernel) hown hK hP (0) rfl rfl 5 (by decide) (hts (.fieldLink RX3 23 "VinegarLoftModel" "warmth" "I") (by decide +kernel)) (fun _ h9 => h9) rfl dX3_setWarmth_32 ?_
    refine va_put (D := D) (ci := 3) (v := .int wm) (ty := .int) (C := RX3) (T := TX3) (N := 13) hx hb hts (by decide +kernel) tyX3 tyX3_ok nmX3 hown hK hP hD hS (0) rfl rfl 5 (by decide) (hts (.fieldLink RX3 23 "VinegarLoftModel" "warmth" "I") (by decide +kernel)) (fun _ h9 => h9) rfl (by decide +kernel) rfl rfl (Nat.le_of_ble_eq_true rfl) dX3_setWarmth_35 (fun H locs hP hD hS => ?_)
    have hP : va_P D vwCl (modW y aw az ah ak cI cD (nI n) wm ys q qf yo ri ol 1 wd zs h kp) H := hP
    have hD : va_D A (modW y aw az ah ak cI cD (nI n) wm ys q qf yo ri ol 1 wd zs h kp) := hD
    have hP : va_P D vwCl (modW y aw az ah ak cI cD (nI n) (if thR 0 40 x = 0 then x else wm) ys q qf yo ri ol (thR 0 40 x) wd zs h kp) H := by rw [show thR 0 40 x = 1 from if_pos (Or.inl c2), if_neg (by decide)]; exact hP
    have hD : va_D A (modW y aw az ah ak cI cD (nI n) (if thR 0 40 x = 0 then x else wm) ys q qf yo ri ol (thR 0 40 x) wd zs h kp) := by rw [show thR 0 40 x = 1 from if_pos (Or.inl c2), if_neg (by decide)]; exact hD
    exact W.vret hx hb hr (fun t ht hW => ⟨⟨(), rfl, trivial, by rw [ht]; exact hP, va_K.moved hW.alike hK, hD⟩, hS.F ht⟩) hS.2.2 dX3_setWarmth_38
  · refine lv_iload_n hx hb dX3_setWarmth_5 rfl (lv_at hl 1 rfl) ?_
    refine lv_bipush (v := 40) hx hb dX3_setWarmth_6 (by decide) ?_
    refine lv_icmp_gt (tgt := 15) hx hb dX3_setWarmth_8 (by decide) (fun c8 => ?_) (fun c8 => ?_)
    · refine lv_iconst (v := 1) hx hb dX3_setWarmth_15 (by decide) ?_
      refine va_put (D := D) (ci := 3) (v := .int 1) (ty := .int) (C := RX3) (T := TX3) (N := 13) hx hb hts (by decide +kernel) tyX3 tyX3_ok nmX3 hown hK hP hD hS (0) rfl rfl 12 (by decide) (hts (.fieldLink RX3 30 "VinegarLoftModel" "thrown" "I") (by decide +kernel)) (fun _ h9 => h9) rfl (by decide +kernel) rfl rfl (Nat.le_of_ble_eq_true rfl) dX3_setWarmth_16 (fun H locs hP hD hS => ?_)
      have hP : va_P D vwCl (modW y aw az ah ak cI cD (nI n) wm ys q qf yo ri ol 1 wd zs h kp) H := hP
      have hD : va_D A (modW y aw az ah ak cI cD (nI n) wm ys q qf yo ri ol 1 wd zs h kp) := hD
      refine lv_aload_n hx hb dX3_setWarmth_19 rfl (lv_at hl 0 rfl) ?_
      refine lv_aload_n hx hb dX3_setWarmth_20 rfl (lv_at hl 0 rfl) ?_
      refine va_get (D := D) (ci := 3) (v := .int 1) (C := RX3) (T := TX3) (N := 13) hx hb hts (by decide +kernel) hown hK hP (0) rfl rfl 12 (by decide) (hts (.fieldLink RX3 30 "VinegarLoftModel" "thrown" "I") (by decide +kernel)) (fun _ h9 => h9) rfl dX3_setWarmth_21 ?_
      refine lv_if_ne (tgt := 31) hx hb dX3_setWarmth_24 (by decide) (fun c24 => ?_) (fun c24 => absurd c24 (by decide))
      refine lv_aload_n hx hb dX3_setWarmth_31 rfl (lv_at hl 0 rfl) ?_
      refine va_get (D := D) (ci := 3) (v := .int wm) (C := RX3) (T := TX3) (N := 13) hx hb hts (by decide +kernel) hown hK hP (0) rfl rfl 5 (by decide) (hts (.fieldLink RX3 23 "VinegarLoftModel" "warmth" "I") (by decide +kernel)) (fun _ h9 => h9) rfl dX3_setWarmth_32 ?_
      refine va_put (D := D) (ci := 3) (v := .int wm) (ty := .int) (C := RX3) (T := TX3) (N := 13) hx hb hts (by decide +kernel) tyX3 tyX3_ok nmX3 hown hK hP hD hS (0) rfl rfl 5 (by decide) (hts (.fieldLink RX3 23 "VinegarLoftModel" "warmth" "I") (by decide +kernel)) (fun _ h9 => h9) rfl (by decide +kernel) rfl rfl (Nat.le_of_ble_eq_true rfl) dX3_setWarmth_35 (fun H locs hP hD hS => ?_)
      have hP : va_P D vwCl (modW y aw az ah ak cI cD (nI n) wm ys q qf yo ri ol 1 wd zs h kp) H := hP
      have hD : va_D A (modW y aw az ah ak cI cD (nI n) wm ys q qf yo ri ol 1 wd zs h kp) := hD
      have hP : va_P D vwCl (modW y aw az ah ak cI cD (nI n) (if thR 0 40 x = 0 then x else wm) ys q qf yo ri ol (thR 0 40 x) wd zs h kp) H := by rw [show thR 0 40 x = 1 from if_pos (Or.inr c8), if_neg (by decide)]; exact hP
      have hD : va_D A (modW y aw az ah ak cI cD (nI n) (if thR 0 40 x = 0 then x else wm) ys q qf yo ri ol (thR 0 40 x) wd zs h kp) := by rw [show thR 0 40 x = 1 from if_pos (Or.inr c8), if_neg (by decide)]; exact hD
      exact W.vret hx hb hr (fun t ht hW => ⟨⟨(), rfl, trivial, by rw [ht]; exact hP, va_K.moved hW.alike hK, hD⟩, hS.F ht⟩) hS.2.2 dX3_setWarmth_38
    · refine lv_iconst (v := 0) hx hb dX3_setWarmth_11 (by decide) ?_
      refine lv_goto (tgt := 16) hx hb dX3_setWarmth_12 (by decide) ?_
      refine va_put (D := D) (ci := 3) (v := .int 0) (ty := .int) (C := RX3) (T := TX3) (N := 13) hx hb hts (by decide +kernel) tyX3 tyX3_ok nmX3 hown hK hP hD hS (0) rfl rfl 12 (by decide) (hts (.fieldLink RX3 30 "VinegarLoftModel" "thrown" "I") (by decide +kernel)) (fun _ h9 => h9) rfl (by decide +kernel) rfl rfl (Nat.le_of_ble_eq_true rfl) dX3_setWarmth_16 (fun H locs hP hD hS => ?_)
      have hP : va_P D vwCl (modW y aw az ah ak cI cD (nI n) wm ys q qf yo ri ol 0 wd zs h kp) H := hP
      have hD : va_D A (modW y aw az ah ak cI cD (nI n) wm ys q qf yo ri ol 0 wd zs h kp) := hD
      refine lv_aload_n hx hb dX3_setWarmth_19 rfl (lv_at hl 0 rfl) ?_
      refine lv_aload_n hx hb dX3_setWarmth_20 rfl (lv_at hl 0 rfl) ?_
      refine va_get (D := D) (ci := 3) (v := .int 0) (C := RX3) (T := TX3) (N := 13) hx hb hts (by decide +kernel) hown hK hP (0) rfl rfl 12 (by decide) (hts (.fieldLink RX3 30 "VinegarLoftModel" "thrown" "I") (by decide +kernel)) (fun _ h9 => h9) rfl dX3_setWarmth_21 ?_
      refine lv_if_ne (tgt := 31) hx hb dX3_setWarmth_24 (by decide) (fun c24 => absurd c24 (fun h9 => h9 rfl)) (fun c24 => ?_)
      refine lv_iload_n hx hb dX3_setWarmth_27 rfl (lv_at hl 1 rfl) ?_
      refine lv_goto (tgt := 35) hx hb dX3_setWarmth_28 (by decide) ?_
      refine va_put (D := D) (ci := 3) (v := .int x) (ty := .int) (C := RX3) (T := TX3) (N := 13) hx hb hts (by decide +kernel) tyX3 tyX3_ok nmX3 hown hK hP hD hS (0) rfl rfl 5 (by decide) (hts (.fieldLink RX3 23 "VinegarLoftModel" "warmth" "I") (by decide +kernel)) (fun _ h9 => h9) rfl (by decide +kernel) rfl rfl (Nat.le_of_ble_eq_true rfl) dX3_setWarmth_35 (fun H locs hP hD hS => ?_)
      have hP : va_P D vwCl (modW y aw az ah ak cI cD (nI n) x ys q qf yo ri ol 0 wd zs h kp) H := hP
      have hD : va_D A (modW y aw az ah ak cI cD (nI n) x ys q qf yo ri ol 0 wd zs h kp) := hD
      have hP : va_P D vwCl (modW y aw az ah ak cI cD (nI n) (if thR 0 40 x = 0 then x else wm) ys q qf yo ri ol (thR 0 40 x) wd zs h kp) H := by rw [show thR 0 40 x = 0 from if_neg (fun h9 => h9.elim c2 c8), if_pos rfl]; exact hP
      have hD : va_D A (modW y aw az ah ak cI cD (nI n) (if thR 0 40 x = 0 then x else wm) ys q qf yo ri ol (thR 0 40 x) wd zs h kp) := by rw [show thR 0 40 x = 0 from if_neg (fun h9 => h9.elim c2 c8), if_pos rfl]; exact hD
      exact W.vret hx hb hr (fun t ht hW => ⟨⟨(), rfl, trivial, by rw [ht]; exact hP, va_K.moved hW.alike hK, hD⟩, hS.F ht⟩) hS.2.2 dX3_setWarmth_38

set_option maxHeartbeats 4000000 in
set_option maxRecDepth 100000 in
theorem metX3_barrels (l : Launch) (D : va_G) (sz : Nat) (y aw az ah ak : Nat) (cI cD : ClassId) (n : Nat) (hn : n ≤ 8) (wm ys : Int32) (q : UInt64) (qf yo ri ol th : Int32) (wd zs : Nat → Int32) (h kp : Nat → UInt64)  : Met l yX3_barrels wsX3_barrels { frames := 0, cells := 0, slots := 0, locals := 0 } (Pm D [(cI, .int), (cD, .double)] [.ref y] (modW y aw az ah ak cI cD (nI n) wm ys q qf yo ri ol th wd zs h kp) sz) (va_Qi (fun (r : Int32) (_ : Unit) => r = nI n) (Bm D [(cI, .int), (cD, .double)] (va_A (modW y aw az ah ak cI cD (nI n) wm ys q qf yo ri ol th wd zs h kp) sz) (modW y aw az ah ak cI cD (nI n) wm ys q qf yo ri ol 0 wd zs h kp)) (va_A (modW y aw az ah ak cI cD (nI n) wm ys q qf yo ri ol th wd zs h kp) sz)) 0 0 (va_A (modW y aw az ah ak cI cD (nI n) wm ys q qf yo ri ol th wd zs h kp) sz) := by
  refine Met.ofW (cc := cX3_barrels) (maxL := 1) (ret := (some .int)) (by decide) rfl ?_
  intro p e s m args below meth c s₁ B hml hv
  obtain ⟨rfl, hsz, hP, hK, hD0⟩ := hv
  have hx := B.exec
  have hb := B.bytes
  have hr := B.returns
  have hts := atoms_spec (ws := wsX3_barrels) B.pre
  have hown : s.vm.findClass RX3 = some m.cls := findClass_of_methodNamed B.named
  have hlocks := B.notSynchronized
  subst hsz
  have hD := hD0.self (sz := s.heap.size)
  generalize hAe : va_A (modW y aw az ah ak cI cD (nI n) wm ys q qf yo ri ol th wd zs h kp) s.heap.size = A at hD ⊢
  have hA : ∀ q : Nat, s.heap.size ≤ q → A q := fun q h => by rw [← hAe]; exact Or.inr h
  refine kW_H (fun H hH => ?_)
  have hP : va_P D vwCl (modW y aw az ah ak cI cD (nI n) wm ys q qf yo ri ol th wd zs h kp) H := by rw [hH]; exact hP
  have hS : va_S A s.heap H [] := by rw [hH]; exact va_S.rf
  have hl := lv_entry ([.ref y]) (n := 1) (Nat.le_of_ble_eq_true rfl)
  rw [lg_entry_eq]
  generalize (lg_sl ([.ref y]) ++ List.replicate (1 - (lg_sl ([.ref y])).length) Slot.unset).toArray = ls at hl ⊢
  have hl : lv_has ls 1 [(0, .ref y)] := hl
  refine lv_aload_n hx hb dX3_barrels_0 rfl (lv_at hl 0 rfl) ?_
  refine lv_iconst (v := 0) hx hb dX3_barrels_1 (by decide) ?_
  refine va_put (D := D) (ci := 3) (v := .int 0) (ty := .int) (C := RX3) (T := TX3) (N := 13) hx hb hts (by decide +kernel) tyX3 tyX3_ok nmX3 hown hK hP hD hS (0) rfl rfl 12 (by decide) (hts (.fieldLink RX3 30 "VinegarLoftModel" "thrown" "I") (by decide +kernel)) (fun _ h9 => h9) rfl (by decide +kernel) rfl rfl (Nat.le_of_ble_eq_true rfl) dX3_barrels_2 (fun H locs hP hD hS => ?_)
  have hP : va_P D vwCl (modW y aw az ah ak cI cD (nI n) wm ys q qf yo ri ol 0 wd zs h kp) H := hP
  have hD : va_D A (modW y aw az ah ak cI cD (nI n) wm ys q qf yo ri ol 0 wd zs h kp) := hD
  refine lv_aload_n hx hb dX3_barrels_5 rfl (lv_at hl 0 rfl) ?_
  refine va_get (D := D) (ci := 3) (v := .int (nI n)) (C := RX3) (T := TX3) (N := 13) hx hb hts (by decide +kernel) hown hK hP (0) rfl rfl 4 (by decide) (hts (.fieldLink RX3 33 "VinegarLoftModel" "many" "I") (by decide +kernel)) (fun _ h9 => h9) rfl dX3_barrels_6 ?_
  exact W.iret hx hb hr (fun t ht hW => ⟨⟨_, (), rfl, rfl, by rw [ht]; exact hP, va_K.moved hW.alike hK, hD⟩, hS.F ht⟩) hS.2.2 dX3_barrels_9

set_option maxHeartbeats 4000000 in
set_option maxRecDepth 100000 in
theorem metX3_years (l : Launch) (D : va_G) (sz : Nat) (y aw az ah ak : Nat) (cI cD : ClassId) (n : Nat) (hn : n ≤ 8) (wm ys : Int32) (q : UInt64) (qf yo ri ol th : Int32) (wd zs : Nat → Int32) (h kp : Nat → UInt64)  : Met l yX3_years wsX3_years { frames := 0, cells := 0, slots := 0, locals := 0 } (Pm D [(cI, .int), (cD, .double)] [.ref y] (modW y aw az ah ak cI cD (nI n) wm ys q qf yo ri ol th wd zs h kp) sz) (va_Qi (fun (r : Int32) (_ : Unit) => r = ys) (Bm D [(cI, .int), (cD, .double)] (va_A (modW y aw az ah ak cI cD (nI n) wm ys q qf yo ri ol th wd zs h kp) sz) (modW y aw az ah ak cI cD (nI n) wm ys q qf yo ri ol 0 wd zs h kp)) (va_A (modW y aw az ah ak cI cD (nI n) wm ys q qf yo ri ol th wd zs h kp) sz)) 0 0 (va_A (modW y aw az ah ak cI cD (nI n) wm ys q qf yo ri ol th wd zs h kp) sz) := by
  refine Met.ofW (cc := cX3_years) (maxL := 1) (ret := (some .int)) (by decide) rfl ?_
  intro p e s m args below meth c s₁ B hml hv
  obtain ⟨rfl, hsz, hP, hK, hD0⟩ := hv
  have hx := B.exec
  have hb := B.bytes
  have hr := B.returns
  have hts := atoms_spec (ws := wsX3_years) B.pre
  have hown : s.vm.findClass RX3 = some m.cls := findClass_of_methodNamed B.named
  have hlocks := B.notSynchronized
  subst hsz
  have hD := hD0.self (sz := s.heap.size)
  generalize hAe : va_A (modW y aw az ah ak cI cD (nI n) wm ys q qf yo ri ol th wd zs h kp) s.heap.size = A at hD ⊢
  have hA : ∀ q : Nat, s.heap.size ≤ q → A q := fun q h => by rw [← hAe]; exact Or.inr h
  refine kW_H (fun H hH => ?_)
  have hP : va_P D vwCl (modW y aw az ah ak cI cD (nI n) wm ys q qf yo ri ol th wd zs h kp) H := by rw [hH]; exact hP
  have hS : va_S A s.heap H [] := by rw [hH]; exact va_S.rf
  have hl := lv_entry ([.ref y]) (n := 1) (Nat.le_of_ble_eq_true rfl)
  rw [lg_entry_eq]
  generalize (lg_sl ([.ref y]) ++ List.replicate (1 - (lg_sl ([.ref y])).length) Slot.unset).toArray = ls at hl ⊢
  have hl : lv_has ls 1 [(0, .ref y)] := hl
  refine lv_aload_n hx hb dX3_years_0 rfl (lv_at hl 0 rfl) ?_
  refine lv_iconst (v := 0) hx hb dX3_years_1 (by decide) ?_
  refine va_put (D := D) (ci := 3) (v := .int 0) (ty := .int) (C := RX3) (T := TX3) (N := 13) hx hb hts (by decide +kernel) tyX3 tyX3_ok nmX3 hown hK hP hD hS (0) rfl rfl 12 (by decide) (hts (.fieldLink RX3 30 "VinegarLoftModel" "thrown" "I") (by decide +kernel)) (fun _ h9 => h9) rfl (by decide +kernel) rfl rfl (Nat.le_of_ble_eq_true rfl) dX3_years_2 (fun H locs hP hD hS => ?_)
  have hP : va_P D vwCl (modW y aw az ah ak cI cD (nI n) wm ys q qf yo ri ol 0 wd zs h kp) H := hP
  have hD : va_D A (modW y aw az ah ak cI cD (nI n) wm ys q qf yo ri ol 0 wd zs h kp) := hD
  refine lv_aload_n hx hb dX3_years_5 rfl (lv_at hl 0 rfl) ?_
  refine va_get (D := D) (ci := 3) (v := .int ys) (C := RX3) (T := TX3) (N := 13) hx hb hts (by decide +kernel) hown hK hP (0) rfl rfl 6 (by decide) (hts (.fieldLink RX3 95 "VinegarLoftModel" "years" "I") (by decide +kernel)) (fun _ h9 => h9) rfl dX3_years_6 ?_
  exact W.iret hx hb hr (fun t ht hW => ⟨⟨_, (), rfl, rfl, by rw [ht]; exact hP, va_K.moved hW.alike hK, hD⟩, hS.F ht⟩) hS.2.2 dX3_years_9

set_option maxHeartbeats 4000000 in
set_option maxRecDepth 100000 in
theorem metX3_oldest (l : Launch) (D : va_G) (sz : Nat) (y aw az ah ak : Nat) (cI cD : ClassId) (n : Nat) (hn : n ≤ 8) (wm ys : Int32) (q : UInt64) (qf yo ri ol th : Int32) (wd zs : Nat → Int32) (h kp : Nat → UInt64) (hN : NNr n h) : Met l yX3_oldest wsX3_oldest { frames := 2, cells := 0, slots := 0, locals := 43 } (Pm D [(cI, .int), (cD, .double)] [.ref y] (modW y aw az ah ak cI cD (nI n) wm ys q qf yo ri ol th wd zs h kp) sz) (va_Qi (fun (r : Int32) (_ : Unit) => r = encO (elO h n)) (Bm D [(cI, .int), (cD, .double)] (va_A (modW y aw az ah ak cI cD (nI n) wm ys q qf yo ri ol th wd zs h kp) sz) (modW y aw az ah ak cI cD (nI n) wm ys q qf yo ri ol 0 wd zs h kp)) (va_A (modW y aw az ah ak cI cD (nI n) wm ys q qf yo ri ol th wd zs h kp) sz)) 0 0 (va_A (modW y aw az ah ak cI cD (nI n) wm ys q qf yo ri ol th wd zs h kp) sz) := by
  refine Met.ofW (cc := cX3_oldest) (maxL := 1) (ret := (some .int)) (by decide) rfl ?_
  intro p e s m args below meth c s₁ B hml hv
  obtain ⟨rfl, hsz, hP, hK, hD0⟩ := hv
  have hx := B.exec
  have hb := B.bytes
  have hr := B.returns
  have hts := atoms_spec (ws := wsX3_oldest) B.pre
  have hown : s.vm.findClass RX3 = some m.cls := findClass_of_methodNamed B.named
  have hlocks := B.notSynchronized
  subst hsz
  have hD := hD0.self (sz := s.heap.size)
  generalize hAe : va_A (modW y aw az ah ak cI cD (nI n) wm ys q qf yo ri ol th wd zs h kp) s.heap.size = A at hD ⊢
  have hA : ∀ q : Nat, s.heap.size ≤ q → A q := fun q h => by rw [← hAe]; exact Or.inr h
  refine kW_H (fun H hH => ?_)
  have hP : va_P D vwCl (modW y aw az ah ak cI cD (nI n) wm ys q qf yo ri ol th wd zs h kp) H := by rw [hH]; exact hP
  have hS : va_S A s.heap H [] := by rw [hH]; exact va_S.rf
  have hl := lv_entry ([.ref y]) (n := 1) (Nat.le_of_ble_eq_true rfl)
  rw [lg_entry_eq]
  generalize (lg_sl ([.ref y]) ++ List.replicate (1 - (lg_sl ([.ref y])).length) Slot.unset).toArray = ls at hl ⊢
  have hl : lv_has ls 1 [(0, .ref y)] := hl
  refine lv_aload_n hx hb dX3_oldest_0 rfl (lv_at hl 0 rfl) ?_
  refine lv_iconst (v := 0) hx hb dX3_oldest_1 (by decide) ?_
  refine va_put (D := D) (ci := 3) (v := .int 0) (ty := .int) (C := RX3) (T := TX3) (N := 13) hx hb hts (by decide +kernel) tyX3 tyX3_ok nmX3 hown hK hP hD hS (0) rfl rfl 12 (by decide) (hts (.fieldLink RX3 30 "VinegarLoftModel" "thrown" "I") (by decide +kernel)) (fun _ h9 => h9) rfl (by decide +kernel) rfl rfl (Nat.le_of_ble_eq_true rfl) dX3_oldest_2 (fun H locs hP hD hS => ?_)
  have hP : va_P D vwCl (modW y aw az ah ak cI cD (nI n) wm ys q qf yo ri ol 0 wd zs h kp) H := hP
  have hD : va_D A (modW y aw az ah ak cI cD (nI n) wm ys q qf yo ri ol 0 wd zs h kp) := hD
  refine lv_aload_n hx hb dX3_oldest_5 rfl (lv_at hl 0 rfl) ?_
  refine kr_i (W.runV (As := []) (rest := []) ⟨hx, hb, hml, hown, hts⟩ (metX3_oldestNow l D y aw az ah ak cI cD n (by omega) wm ys q qf yo ri ol 0 wd zs h kp hN) (cwV 0 hts gX3_oldest_X3_oldestNow rfl rfl rfl (by decide +kernel) ⟨Nat.le_of_ble_eq_true rfl, Nat.le_of_ble_eq_true rfl⟩) (prV 3 0 RX3 TX3 13 rfl rfl hP hK) rfl rfl hl.1 rfl (lv_room (Nat.le_of_ble_eq_true rfl)) dX3_oldest_6 ⟨Nat.le_of_ble_eq_true rfl, Nat.le_of_ble_eq_true rfl⟩) ?_
  exact W.iret hx hb hr (fun t ht hW => ⟨⟨_, (), rfl, rfl, by rw [ht]; exact hP, va_K.moved hW.alike hK, hD⟩, hS.F ht⟩) hS.2.2 dX3_oldest_9

set_option maxHeartbeats 4000000 in
set_option maxRecDepth 100000 in
theorem metX3_drawable (l : Launch) (D : va_G) (sz : Nat) (y aw az ah ak : Nat) (cI cD : ClassId) (n : Nat) (hn : n ≤ 8) (wm ys : Int32) (q : UInt64) (qf yo ri ol th : Int32) (wd zs : Nat → Int32) (h kp : Nat → UInt64) (hN : NNr n h) (hr9 : rdok h n q) (hr8 : rdM h n qf q) : Met l yX3_drawable wsX3_drawable { frames := 3, cells := 0, slots := 0, locals := 66 } (Pm D [(cI, .int), (cD, .double)] [.ref y] (modW y aw az ah ak cI cD (nI n) wm ys q qf yo ri ol th wd zs h kp) sz) (va_Qi (fun (r : Int32) (_ : Unit) => r = rdv h n qf q) (Bm D [(cI, .int), (cD, .double)] (va_A (modW y aw az ah ak cI cD (nI n) wm ys q qf yo ri ol th wd zs h kp) sz) (modW y aw az ah ak cI cD (nI n) wm ys q qf yo ri ol 0 wd zs h kp)) (va_A (modW y aw az ah ak cI cD (nI n) wm ys q qf yo ri ol th wd zs h kp) sz)) 0 0 (va_A (modW y aw az ah ak cI cD (nI n) wm ys q qf yo ri ol th wd zs h kp) sz) := by
  refine Met.ofW (cc := cX3_drawable) (maxL := 1) (ret := (some .int)) (by decide) rfl ?_
  intro p e s m args below meth c s₁ B hml hv
  obtain ⟨rfl, hsz, hP, hK, hD0⟩ := hv
  have hx := B.exec
  have hb := B.bytes
  have hr := B.returns
  have hts := atoms_spec (ws := wsX3_drawable) B.pre
  have hown : s.vm.findClass RX3 = some m.cls := findClass_of_methodNamed B.named
  have hlocks := B.notSynchronized
  subst hsz
  have hD := hD0.self (sz := s.heap.size)
  generalize hAe : va_A (modW y aw az ah ak cI cD (nI n) wm ys q qf yo ri ol th wd zs h kp) s.heap.size = A at hD ⊢
  have hA : ∀ q : Nat, s.heap.size ≤ q → A q := fun q h => by rw [← hAe]; exact Or.inr h
  refine kW_H (fun H hH => ?_)
  have hP : va_P D vwCl (modW y aw az ah ak cI cD (nI n) wm ys q qf yo ri ol th wd zs h kp) H := by rw [hH]; exact hP
  have hS : va_S A s.heap H [] := by rw [hH]; exact va_S.rf
  have hl := lv_entry ([.ref y]) (n := 1) (Nat.le_of_ble_eq_true rfl)
  rw [lg_entry_eq]
  generalize (lg_sl ([.ref y]) ++ List.replicate (1 - (lg_sl ([.ref y])).length) Slot.unset).toArray = ls at hl ⊢
  have hl : lv_has ls 1 [(0, .ref y)] := hl
  refine lv_aload_n hx hb dX3_drawable_0 rfl (lv_at hl 0 rfl) ?_
  refine lv_iconst (v := 0) hx hb dX3_drawable_1 (by decide) ?_
  refine va_put (D := D) (ci := 3) (v := .int 0) (ty := .int) (C := RX3) (T := TX3) (N := 13) hx hb hts (by decide +kernel) tyX3 tyX3_ok nmX3 hown hK hP hD hS (0) rfl rfl 12 (by decide) (hts (.fieldLink RX3 30 "VinegarLoftModel" "thrown" "I") (by decide +kernel)) (fun _ h9 => h9) rfl (by decide +kernel) rfl rfl (Nat.le_of_ble_eq_true rfl) dX3_drawable_2 (fun H locs hP hD hS => ?_)
  have hP : va_P D vwCl (modW y aw az ah ak cI cD (nI n) wm ys q qf yo ri ol 0 wd zs h kp) H := hP
  have hD : va_D A (modW y aw az ah ak cI cD (nI n) wm ys q qf yo ri ol 0 wd zs h kp) := hD
  refine lv_aload_n hx hb dX3_drawable_5 rfl (lv_at hl 0 rfl) ?_
  refine kr_i (W.runV (As := []) (rest := []) ⟨hx, hb, hml, hown, hts⟩ (metX3_bottlesNow l D y aw az ah ak cI cD n (by omega) wm ys q qf yo ri ol 0 wd zs h kp hN hr9 hr8) (cwV 0 hts gX3_drawable_X3_bottlesNow rfl rfl rfl (by decide +kernel) ⟨Nat.le_of_ble_eq_true rfl, Nat.le_of_ble_eq_true rfl⟩) (prV 3 0 RX3 TX3 13 rfl rfl hP hK) rfl rfl hl.1 rfl (lv_room (Nat.le_of_ble_eq_true rfl)) dX3_drawable_6 ⟨Nat.le_of_ble_eq_true rfl, Nat.le_of_ble_eq_true rfl⟩) ?_
  exact W.iret hx hb hr (fun t ht hW => ⟨⟨_, (), rfl, rfl, by rw [ht]; exact hP, va_K.moved hW.alike hK, hD⟩, hS.F ht⟩) hS.2.2 dX3_drawable_9

set_option maxHeartbeats 4000000 in
set_option maxRecDepth 100000 in
theorem metX3_bottles (l : Launch) (D : va_G) (sz : Nat) (y aw az ah ak : Nat) (cI cD : ClassId) (n : Nat) (hn : n ≤ 8) (wm ys : Int32) (q : UInt64) (qf yo ri ol th : Int32) (wd zs : Nat → Int32) (h kp : Nat → UInt64) (x : Int32)  : Met l yX3_bottles wsX3_bottles { frames := 0, cells := 0, slots := 0, locals := 0 } (Pm D [(cI, .int), (cD, .double)] [.ref y, .int x] (modW y aw az ah ak cI cD (nI n) wm ys q qf yo ri ol th wd zs h kp) sz) (va_Qi (fun (r : Int32) (_ : Unit) => r = if thR 0 2 x = 0 then (if x = 0 then yo else if x = 1 then ri else ol) else 0) (Bm D [(cI, .int), (cD, .double)] (va_A (modW y aw az ah ak cI cD (nI n) wm ys q qf yo ri ol th wd zs h kp) sz) (modW y aw az ah ak cI cD (nI n) wm ys q qf yo ri ol (thR 0 2 x) wd zs h kp)) (va_A (modW y aw az ah ak cI cD (nI n) wm ys q qf yo ri ol th wd zs h kp) sz)) 0 0 (va_A (modW y aw az ah ak cI cD (nI n) wm ys q qf yo ri ol th wd zs h kp) sz) := by
  refine Met.ofW (cc := cX3_bottles) (maxL := 2) (ret := (some .int)) (by decide) rfl ?_
  intro p e s m args below meth c s₁ B hml hv
  obtain ⟨rfl, hsz, hP, hK, hD0⟩ := hv
  have hx := B.exec
  have hb := B.bytes
  have hr := B.returns
  have hts := atoms_spec (ws := wsX3_bottles) B.pre
  have hown : s.vm.findClass RX3 = some m.cls := findClass_of_methodNamed B.named
  have hlocks := B.notSynchronized
  subst hsz
  have hD := hD0.self (sz := s.heap.size)
  generalize hAe : va_A (modW y aw az ah ak cI cD (nI n) wm ys q qf yo ri ol th wd zs h kp) s.heap.size = A at hD ⊢
  have hA : ∀ q : Nat, s.heap.size ≤ q → A q := fun q h => by rw [← hAe]; exact Or.inr h
  refine kW_H (fun H hH => ?_)
  have hP : va_P D vwCl (modW y aw az ah ak cI cD (nI n) wm ys q qf yo ri ol th wd zs h kp) H := by rw [hH]; exact hP
  have hS : va_S A s.heap H [] := by rw [hH]; exact va_S.rf
  have hl := lv_entry ([.ref y, .int x]) (n := 2) (Nat.le_of_ble_eq_true rfl)
  rw [lg_entry_eq]
  generalize (lg_sl ([.ref y, .int x]) ++ List.replicate (2 - (lg_sl ([.ref y, .int x])).length) Slot.unset).toArray = ls at hl ⊢
  have hl : lv_has ls 2 [(0, .ref y), (1, .int x)] := hl
  refine lv_aload_n hx hb dX3_bottles_0 rfl (lv_at hl 0 rfl) ?_
  refine lv_iload_n hx hb dX3_bottles_1 rfl (lv_at hl 1 rfl) ?_
  refine lv_if_lt (tgt := 14) hx hb dX3_bottles_2 (by decide) (fun c2 => ?_) (fun c2 => ?_)
  · refine lv_iconst (v := 1) hx hb dX3_bottles_14 (by decide) ?_
    refine va_put (D := D) (ci := 3) (v := .int 1) (ty := .int) (C := RX3) (T := TX3) (N := 13) hx hb hts (by decide +kernel) tyX3 tyX3_ok nmX3 hown hK hP hD hS (0) rfl rfl 12 (by decide) (hts (.fieldLink RX3 30 "VinegarLoftModel" "thrown" "I") (by decide +kernel)) (fun _ h9 => h9) rfl (by decide +kernel) rfl rfl (Nat.le_of_ble_eq_true rfl) dX3_bottles_15 (fun H locs hP hD hS => ?_)
    have hP : va_P D vwCl (modW y aw az ah ak cI cD (nI n) wm ys q qf yo ri ol 1 wd zs h kp) H := hP
    have hD : va_D A (modW y aw az ah ak cI cD (nI n) wm ys q qf yo ri ol 1 wd zs h kp) := hD
    refine lv_aload_n hx hb dX3_bottles_18 rfl (lv_at hl 0 rfl) ?_
    refine va_get (D := D) (ci := 3) (v := .int 1) (C := RX3) (T := TX3) (N := 13) hx hb hts (by decide +kernel) hown hK hP (0) rfl rfl 12 (by decide) (hts (.fieldLink RX3 30 "VinegarLoftModel" "thrown" "I") (by decide +kernel)) (fun _ h9 => h9) rfl dX3_bottles_19 ?_
    refine lv_if_eq (tgt := 29) hx hb dX3_bottles_22 (by decide) (fun c22 => absurd c22 (by decide)) (fun c22 => ?_)
    refine lv_iconst (v := 0) hx hb dX3_bottles_25 (by decide) ?_
    refine lv_goto (tgt := 56) hx hb dX3_bottles_26 (by decide) ?_
    have hP : va_P D vwCl (modW y aw az ah ak cI cD (nI n) wm ys q qf yo ri ol (thR 0 2 x) wd zs h kp) H := by rw [show thR 0 2 x = 1 from if_pos (Or.inl c2)]; exact hP
    have hD : va_D A (modW y aw az ah ak cI cD (nI n) wm ys q qf yo ri ol (thR 0 2 x) wd zs h kp) := by rw [show thR 0 2 x = 1 from if_pos (Or.inl c2)]; exact hD
    exact W.iret hx hb hr (fun t ht hW => ⟨⟨_, (), rfl, by rw [show thR 0 2 x = 1 from if_pos (Or.inl c2), if_neg (by decide)], by rw [ht]; exact hP, va_K.moved hW.alike hK, hD⟩, hS.F ht⟩) hS.2.2 dX3_bottles_56
  · refine lv_iload_n hx hb dX3_bottles_5 rfl (lv_at hl 1 rfl) ?_
    refine lv_iconst (v := 2) hx hb dX3_bottles_6 (by decide) ?_
    refine lv_icmp_gt (tgt := 14) hx hb dX3_bottles_7 (by decide) (fun c7 => ?_) (fun c7 => ?_)
    · refine lv_iconst (v := 1) hx hb dX3_bottles_14 (by decide) ?_
      refine va_put (D := D) (ci := 3) (v := .int 1) (ty := .int) (C := RX3) (T := TX3) (N := 13) hx hb hts (by decide +kernel) tyX3 tyX3_ok nmX3 hown hK hP hD hS (0) rfl rfl 12 (by decide) (hts (.fieldLink RX3 30 "VinegarLoftModel" "thrown" "I") (by decide +kernel)) (fun _ h9 => h9) rfl (by decide +kernel) rfl rfl (Nat.le_of_ble_eq_true rfl) dX3_bottles_15 (fun H locs hP hD hS => ?_)
      have hP : va_P D vwCl (modW y aw az ah ak cI cD (nI n) wm ys q qf yo ri ol 1 wd zs h kp) H := hP
      have hD : va_D A (modW y aw az ah ak cI cD (nI n) wm ys q qf yo ri ol 1 wd zs h kp) := hD
      refine lv_aload_n hx hb dX3_bottles_18 rfl (lv_at hl 0 rfl) ?_
      refine va_get (D := D) (ci := 3) (v := .int 1) (C := RX3) (T := TX3) (N := 13) hx hb hts (by decide +kernel) hown hK hP (0) rfl rfl 12 (by decide) (hts (.fieldLink RX3 30 "VinegarLoftModel" "thrown" "I") (by decide +kernel)) (fun _ h9 => h9) rfl dX3_bottles_19 ?_
      refine lv_if_eq (tgt := 29) hx hb dX3_bottles_22 (by decide) (fun c22 => absurd c22 (by decide)) (fun c22 => ?_)
      refine lv_iconst (v := 0) hx hb dX3_bottles_25 (by decide) ?_
      refine lv_goto (tgt := 56) hx hb dX3_bottles_26 (by decide) ?_
      have hP : va_P D vwCl (modW y aw az ah ak cI cD (nI n) wm ys q qf yo ri ol (thR 0 2 x) wd zs h kp) H := by rw [show thR 0 2 x = 1 from if_pos (Or.inr c7)]; exact hP
      have hD : va_D A (modW y aw az ah ak cI cD (nI n) wm ys q qf yo ri ol (thR 0 2 x) wd zs h kp) := by rw [show thR 0 2 x = 1 from if_pos (Or.inr c7)]; exact hD
      exact W.iret hx hb hr (fun t ht hW => ⟨⟨_, (), rfl, by rw [show thR 0 2 x = 1 from if_pos (Or.inr c7), if_neg (by decide)], by rw [ht]; exact hP, va_K.moved hW.alike hK, hD⟩, hS.F ht⟩) hS.2.2 dX3_bottles_56
    · refine lv_iconst (v := 0) hx hb dX3_bottles_10 (by decide) ?_
      refine lv_goto (tgt := 15) hx hb dX3_bottles_11 (by decide) ?_
      refine va_put (D := D) (ci := 3) (v := .int 0) (ty := .int) (C := RX3) (T := TX3) (N := 13) hx hb hts (by decide +kernel) tyX3 tyX3_ok nmX3 hown hK hP hD hS (0) rfl rfl 12 (by decide) (hts (.fieldLink RX3 30 "VinegarLoftModel" "thrown" "I") (by decide +kernel)) (fun _ h9 => h9) rfl (by decide +kernel) rfl rfl (Nat.le_of_ble_eq_true rfl) dX3_bottles_15 (fun H locs hP hD hS => ?_)
      have hP : va_P D vwCl (modW y aw az ah ak cI cD (nI n) wm ys q qf yo ri ol 0 wd zs h kp) H := hP
      have hD : va_D A (modW y aw az ah ak cI cD (nI n) wm ys q qf yo ri ol 0 wd zs h kp) := hD
      refine lv_aload_n hx hb dX3_bottles_18 rfl (lv_at hl 0 rfl) ?_
      refine va_get (D := D) (ci := 3) (v := .int 0) (C := RX3) (T := TX3) (N := 13) hx hb hts (by decide +kernel) hown hK hP (0) rfl rfl 12 (by decide) (hts (.fieldLink RX3 30 "VinegarLoftModel" "thrown" "I") (by decide +kernel)) (fun _ h9 => h9) rfl dX3_bottles_19 ?_
      refine lv_if_eq (tgt := 29) hx hb dX3_bottles_22 (by decide) (fun c22 => ?_) (fun c22 => absurd rfl c22)
      refine lv_iload_n hx hb dX3_bottles_29 rfl (lv_at hl 1 rfl) ?_
      refine lv_if_ne (tgt := 40) hx hb dX3_bottles_30 (by decide) (fun c30 => ?_) (fun c30 => ?_)
      · refine lv_iload_n hx hb dX3_bottles_40 rfl (lv_at hl 1 rfl) ?_
        refine lv_iconst (v := 1) hx hb dX3_bottles_41 (by decide) ?_
        refine lv_icmp_ne (tgt := 52) hx hb dX3_bottles_42 (by decide) (fun c42 => ?_) (fun c42 => ?_)
        · refine lv_aload_n hx hb dX3_bottles_52 rfl (lv_at hl 0 rfl) ?_
          refine va_get (D := D) (ci := 3) (v := .int ol) (C := RX3) (T := TX3) (N := 13) hx hb hts (by decide +kernel) hown hK hP (0) rfl rfl 11 (by decide) (hts (.fieldLink RX3 134 "VinegarLoftModel" "old" "I") (by decide +kernel)) (fun _ h9 => h9) rfl dX3_bottles_53 ?_
          have hP : va_P D vwCl (modW y aw az ah ak cI cD (nI n) wm ys q qf yo ri ol (thR 0 2 x) wd zs h kp) H := by rw [show thR 0 2 x = 0 from if_neg (fun h9 => h9.elim c2 c7)]; exact hP
          have hD : va_D A (modW y aw az ah ak cI cD (nI n) wm ys q qf yo ri ol (thR 0 2 x) wd zs h kp) := by rw [show thR 0 2 x = 0 from if_neg (fun h9 => h9.elim c2 c7)]; exact hD
          exact W.iret hx hb hr (fun t ht hW => ⟨⟨_, (), rfl, by rw [show thR 0 2 x = 0 from if_neg (fun h9 => h9.elim c2 c7), if_pos rfl, if_neg c30, if_neg c42], by rw [ht]; exact hP, va_K.moved hW.alike hK, hD⟩, hS.F ht⟩) hS.2.2 dX3_bottles_56
        · refine lv_aload_n hx hb dX3_bottles_45 rfl (lv_at hl 0 rfl) ?_
          refine va_get (D := D) (ci := 3) (v := .int ri) (C := RX3) (T := TX3) (N := 13) hx hb hts (by decide +kernel) hown hK hP (0) rfl rfl 10 (by decide) (hts (.fieldLink RX3 131 "VinegarLoftModel" "ripe" "I") (by decide +kernel)) (fun _ h9 => h9) rfl dX3_bottles_46 ?_
          refine lv_goto (tgt := 56) hx hb dX3_bottles_49 (by decide) ?_
          have hP : va_P D vwCl (modW y aw az ah ak cI cD (nI n) wm ys q qf yo ri ol (thR 0 2 x) wd zs h kp) H := by rw [show thR 0 2 x = 0 from if_neg (fun h9 => h9.elim c2 c7)]; exact hP
          have hD : va_D A (modW y aw az ah ak cI cD (nI n) wm ys q qf yo ri ol (thR 0 2 x) wd zs h kp) := by rw [show thR 0 2 x = 0 from if_neg (fun h9 => h9.elim c2 c7)]; exact hD
          exact W.iret hx hb hr (fun t ht hW => ⟨⟨_, (), rfl, by rw [show thR 0 2 x = 0 from if_neg (fun h9 => h9.elim c2 c7), if_pos rfl, if_neg c30, if_pos c42], by rw [ht]; exact hP, va_K.moved hW.alike hK, hD⟩, hS.F ht⟩) hS.2.2 dX3_bottles_56
      · refine lv_aload_n hx hb dX3_bottles_33 rfl (lv_at hl 0 rfl) ?_
        refine va_get (D := D) (ci := 3) (v := .int yo) (C := RX3) (T := TX3) (N := 13) hx hb hts (by decide +kernel) hown hK hP (0) rfl rfl 9 (by decide) (hts (.fieldLink RX3 126 "VinegarLoftModel" "young" "I") (by decide +kernel)) (fun _ h9 => h9) rfl dX3_bottles_34 ?_
        refine lv_goto (tgt := 56) hx hb dX3_bottles_37 (by decide) ?_
        have hP : va_P D vwCl (modW y aw az ah ak cI cD (nI n) wm ys q qf yo ri ol (thR 0 2 x) wd zs h kp) H := by rw [show thR 0 2 x = 0 from if_neg (fun h9 => h9.elim c2 c7)]; exact hP
        have hD : va_D A (modW y aw az ah ak cI cD (nI n) wm ys q qf yo ri ol (thR 0 2 x) wd zs h kp) := by rw [show thR 0 2 x = 0 from if_neg (fun h9 => h9.elim c2 c7)]; exact hD
        exact W.iret hx hb hr (fun t ht hW => ⟨⟨_, (), rfl, by rw [show thR 0 2 x = 0 from if_neg (fun h9 => h9.elim c2 c7), if_pos rfl, if_pos c30], by rw [ht]; exact hP, va_K.moved hW.alike hK, hD⟩, hS.F ht⟩) hS.2.2 dX3_bottles_56

