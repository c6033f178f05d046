/-! the reference: a year tried, and its constructor (laid by wip/whole/prog/x3e.py) -/
def cpK (k : Nat) (g f : Nat → UInt64) : Nat → UInt64 := fun i => if i < k then g i else f i
theorem cpK_0 {g f : Nat → UInt64} : cpK 0 g f = f := by funext i; simp [cpK]
theorem cpK_s {g f : Nat → UInt64} {k : Nat} : vf_upd (cpK k g f) k (g k) = cpK (k + 1) g f := by
  funext i
  unfold vf_upd cpK
  by_cases h1 : i = k
  · subst h1; simp
  · by_cases h2 : i < k
    · rw [if_neg h1, if_pos h2, if_pos (by omega)]
    · rw [if_neg h1, if_neg h2, if_neg (by omega)]
theorem cpK_r {g f : Nat → UInt64} {k : Nat} (hk : k < 32) : cpK 32 g f k = g k := if_pos hk
theorem cpK_all {g f : Nat → UInt64} (h : ∀ k, 32 ≤ k → g k = f k) : cpK 32 g f = g := by
  funext i
  unfold cpK
  by_cases h2 : i < 32
  · rw [if_pos h2]
  · rw [if_neg h2, h i (by omega)]
/-- a year tried goes well in the reference too -/
def stM (wd zs : Nat → Int32) (wm : Int32) (n : Nat) (h : Nat → UInt64) : Prop := stok wd zs wm n h ∧ (n ≠ 0 → musv (zs 0) (h 0) (FP.i2d 100) = FP.dsub (FP.i2d (zs 0)) (h 0)) ∧ tukk zs (n - 1) (pmH n zs h (FP.i2d 100)) ∧ agNN wd (drv wm) (toH zs (n - 1) (pmH n zs h (FP.i2d 100))) n ∧ rdM (stH wd zs wm n h) n (encO (elO (stH wd zs wm n h) n)) (quv (stH wd zs wm n h) (elO (stH wd zs wm n h) n))
theorem fbX_0 {wd zs : Nat → Int32} {wm : Int32} : ∀ (f a : Nat) (h : Nat → UInt64), fbX wd zs wm 0 f a h = -1
  | 0, _, _ => rfl
  | f + 1, a, h => by
    show (if 0 < stR wd zs wm 0 h then nI a else fbX wd zs wm 0 f (a + 1) (stH wd zs wm 0 h)) = -1
    rw [show stR wd zs wm 0 h = 0 from rdv_none rfl, if_neg (by decide)]
    exact fbX_0 f (a + 1) _
theorem va_K_pA {D : va_G} {s : State} {a b : ClassId} (h1 : va_K D vwCl [(a, .int)] s) (h2 : va_K D vwCl [(b, .int)] s) : a = b := Option.some.inj ((show s.vm.findClass _ = some a from (h1.2 0 _ rfl).2).symm.trans (h2.2 0 _ rfl).2)
theorem va_K_pD {D : va_G} {s : State} {a b : ClassId} (h1 : va_K D vwCl [(a, .double)] s) (h2 : va_K D vwCl [(b, .double)] s) : a = b := Option.some.inj ((show s.vm.findClass _ = some a from (h1.2 0 _ rfl).2).symm.trans (h2.2 0 _ rfl).2)
set_option maxHeartbeats 4000000 in
set_option maxRecDepth 100000 in
/-- firstBottleIn() of the reference -/
theorem metX3_firstBottleIn (l : Launch) (D : va_G) (sz : Nat) (y aw az ah ak : Nat) (cI cD : ClassId) (n : Nat) (hn : n ≤ 8) (wm ys : Int32) (q : UInt64) (qf yo ri ol th : Int32) (wd zs : Nat → Int32) (h kp : Nat → UInt64) (hN : NNr n h) (hr9 : rdok h n q) (hr8 : rdM h n qf q) (hok : ∀ i, i < 60 → stM wd zs wm n (stI wd zs wm n i h)) (hz3 : ∀ k, zerH n (stI wd zs wm n k h)) : Met l yX3_firstBottleIn wsX3_firstBottleIn { frames := 3, cells := 0, slots := 0, locals := 86 } (Pm D [(cI, .int), (cD, .double)] [.ref y] (modW y aw az ah ak cI cD (nI n) wm ys q qf yo ri ol th wd zs h kp) sz) (va_Qi (fun (r9 : Int32) (_ : Nat → UInt64) => r9 = fbv wd zs wm n h qf q) (fun u t9 => va_P D vwCl (modW y aw az ah ak cI cD (nI n) wm ys q qf yo ri ol 0 wd zs h u) t9.heap ∧ va_K D vwCl [(cI, .int), (cD, .double)] t9 ∧ va_D (va_A (modW y aw az ah ak cI cD (nI n) wm ys q qf yo ri ol th wd zs h kp) sz) (modW y aw az ah ak cI cD (nI n) wm ys q qf yo ri ol 0 wd zs h u)) (va_A (modW y aw az ah ak cI cD (nI n) wm ys q qf yo ri ol th wd zs h kp) sz)) 0 0 (va_A (modW y aw az ah ak cI cD (nI n) wm ys q qf yo ri ol th wd zs h kp) sz) := by
  refine Met.ofW (cc := cX3_firstBottleIn) (maxL := 13) (ret := (some .int)) (by decide) rfl ?_
  intro p e s m args below meth c s₁ B hml hv
  obtain ⟨rfl, hsz, hP, hK, hD0⟩ := hv
  have hx := B.exec
  have hb := B.bytes
  have hr := B.returns
  have hts := atoms_spec (ws := wsX3_firstBottleIn) B.pre
  have hown : s.vm.findClass RX3 = some m.cls := findClass_of_methodNamed B.named
  have hlocks := B.notSynchronized
  subst hsz
  have hD := hD0.self (sz := s.heap.size)
  generalize hAe : va_A (modW y aw az ah ak cI cD (nI n) wm ys q qf yo ri ol th wd zs h kp) s.heap.size = A at hD ⊢
  have hA : ∀ q : Nat, s.heap.size ≤ q → A q := fun q h => by rw [← hAe]; exact Or.inr h
  refine kW_H (fun H hH => ?_)
  have hP : va_P D vwCl (modW y aw az ah ak cI cD (nI n) wm ys q qf yo ri ol th wd zs h kp) H := by rw [hH]; exact hP
  have hS : va_S A s.heap H [] := by rw [hH]; exact va_S.rf
  have hl := lv_entry ([.ref y]) (n := 13) (Nat.le_of_ble_eq_true rfl)
  rw [lg_entry_eq]
  generalize (lg_sl ([.ref y]) ++ List.replicate (13 - (lg_sl ([.ref y])).length) Slot.unset).toArray = ls at hl ⊢
  have hl : lv_has ls 13 [(0, .ref y)] := hl
  refine lv_aload_n hx hb dX3_firstBottleIn_0 rfl (lv_at hl 0 rfl) ?_
  refine lv_iconst (v := 0) hx hb dX3_firstBottleIn_1 (by decide) ?_
  refine va_put (D := D) (ci := 3) (v := .int 0) (ty := .int) (C := RX3) (T := TX3) (N := 13) hx hb hts (by decide +kernel) tyX3 tyX3_ok nmX3 hown hK hP hD hS (0) rfl rfl 12 (by decide) (hts (.fieldLink RX3 30 "VinegarLoftModel" "thrown" "I") (by decide +kernel)) (fun _ h9 => h9) rfl (by decide +kernel) rfl rfl (Nat.le_of_ble_eq_true rfl) dX3_firstBottleIn_2 (fun H locs hP hD hS => ?_)
  have hP : va_P D vwCl (modW y aw az ah ak cI cD (nI n) wm ys q qf yo ri ol 0 wd zs h kp) H := hP
  have hD : va_D A (modW y aw az ah ak cI cD (nI n) wm ys q qf yo ri ol 0 wd zs h kp) := hD
  refine lv_aload_n hx hb dX3_firstBottleIn_5 rfl (lv_at hl 0 rfl) ?_
  refine kr_i (W.runV (As := []) (rest := []) ⟨hx, hb, hml, hown, hts⟩ (metX3_bottlesNow l D y aw az ah ak cI cD n (by omega) wm ys q qf yo ri ol 0 wd zs h kp hN hr9 hr8) (cwV 0 hts gX3_firstBottleIn_X3_bottlesNow rfl rfl rfl (by decide +kernel) ⟨Nat.le_of_ble_eq_true rfl, Nat.le_of_ble_eq_true rfl⟩) (prV 3 0 RX3 TX3 13 rfl rfl hP hK) rfl rfl hl.1 rfl (lv_room (Nat.le_of_ble_eq_true rfl)) dX3_firstBottleIn_6 ⟨Nat.le_of_ble_eq_true rfl, Nat.le_of_ble_eq_true rfl⟩) ?_
  refine lv_if_le (tgt := 14) hx hb dX3_firstBottleIn_9 (by decide) (fun c9 => ?_) (fun c9 => ?_)
  · refine lv_aload_n hx hb dX3_firstBottleIn_14 rfl (lv_at hl 0 rfl) ?_
    refine va_get (D := D) (ci := 3) (v := .int (nI n)) (C := RX3) (T := TX3) (N := 13) hx hb hts (by decide +kernel) hown hK hP (0) rfl rfl 4 (by decide) (hts (.fieldLink RX3 33 "VinegarLoftModel" "many" "I") (by decide +kernel)) (fun _ h9 => h9) rfl dX3_firstBottleIn_15 ?_
    refine lv_if_ne (tgt := 23) hx hb dX3_firstBottleIn_18 (by decide) (fun c18 => ?_) (fun c18 => ?_)
    · refine lv_iconst (v := 0) hx hb dX3_firstBottleIn_23 (by decide) ?_
      refine lv_istore_n (lv' := [(1, .int 0), (0, .ref y)]) hx hb dX3_firstBottleIn_24 rfl hl (by decide) rfl (fun ls hl => ?_)
      have h0 : n ≠ 0 := fun h9 => c18 (by rw [h9]; rfl)
      have hP : va_P D vwCl (modW y aw az ah ak cI cD (nI n) wm ys q qf yo ri ol 0 wd zs h (cpK 0 h kp)) H := by rw [cpK_0]; exact hP
      have hD : va_D A (modW y aw az ah ak cI cD (nI n) wm ys q qf yo ri ol 0 wd zs h (cpK 0 h kp)) := by rw [cpK_0]; exact hD
      refine kW_up 32 (fun i H locs ls => va_P D vwCl (modW y aw az ah ak cI cD (nI n) wm ys q qf yo ri ol 0 wd zs h (cpK i h kp)) H ∧ va_D A (modW y aw az ah ak cI cD (nI n) wm ys q qf yo ri ol 0 wd zs h (cpK i h kp)) ∧ va_S A s.heap H locs ∧ lv_has ls 13 [(1, .int (nI i)), (0, .ref y)]) (fun i H locs ls hi hI ih => ?_) (fun H locs ls hI => ?_) ⟨hP, hD, hS, lv_sub hl [0, 1] rfl⟩
      · obtain ⟨hP, hD, hS, hl⟩ := hI
        refine lv_iload_n hx hb dX3_firstBottleIn_25 rfl (lv_at hl 0 rfl) ?_
        refine lv_bipush (v := 32) hx hb dX3_firstBottleIn_26 (by decide) ?_
        refine lv_icmp_ge (tgt := 49) hx hb dX3_firstBottleIn_28 (by decide) (fun c28 => absurd c28 (nI_ge (a := i) (b := 32) hi (by decide))) (fun c28 => ?_)
        refine lv_aload_n hx hb dX3_firstBottleIn_31 rfl (lv_at hl 1 rfl) ?_
        refine va_get (D := D) (ci := 3) (v := .ref ak) (C := RX3) (T := TX3) (N := 13) hx hb hts (by decide +kernel) hown hK hP (0) rfl rfl 3 (by decide) (hts (.fieldLink RX3 20 "VinegarLoftModel" "copy" "[D") (by decide +kernel)) (fun _ h9 => h9) rfl dX3_firstBottleIn_32 ?_
        refine lv_iload_n hx hb dX3_firstBottleIn_35 rfl (lv_at hl 0 rfl) ?_
        refine lv_aload_n hx hb dX3_firstBottleIn_36 rfl (lv_at hl 1 rfl) ?_
        refine va_get (D := D) (ci := 3) (v := .ref ah) (C := RX3) (T := TX3) (N := 13) hx hb hts (by decide +kernel) hown hK hP (0) rfl rfl 2 (by decide) (hts (.fieldLink RX3 16 "VinegarLoftModel" "holds" "[D") (by decide +kernel)) (fun _ h9 => h9) rfl dX3_firstBottleIn_37 ?_
        refine lv_iload_n hx hb dX3_firstBottleIn_40 rfl (lv_at hl 0 rfl) ?_
        refine kx_dald hx hb hK hP 3 1 rfl rfl (j := i) rfl (show i < 32 by omega) (by decide) dX3_firstBottleIn_41 ?_
        refine kx_dast hx hb hK hP hD hS 4 1 rfl rfl (j := i) rfl (show i < 32 by omega) (by decide) dX3_firstBottleIn_42 (fun H locs hP hD hS => ?_)
        have hP : va_P D vwCl (modW y aw az ah ak cI cD (nI n) wm ys q qf yo ri ol 0 wd zs h (vf_upd (cpK i h kp) i (h i))) H := hP
        have hD : va_D A (modW y aw az ah ak cI cD (nI n) wm ys q qf yo ri ol 0 wd zs h (vf_upd (cpK i h kp) i (h i))) := hD
        refine lv_iinc (v := nI (i + 1)) (lv' := [(1, .int (nI (i + 1))), (0, .ref y)]) hx hb dX3_firstBottleIn_43 hl (k := 0) rfl (nI_1 i) (by decide) rfl (fun ls hl => ?_)
        refine lv_goto (tgt := 25) hx hb dX3_firstBottleIn_46 (by decide) ?_
        rw [cpK_s] at hP hD
        exact ih H locs ls ⟨hP, hD, hS, lv_sub hl [0, 1] rfl⟩
      · obtain ⟨hP, hD, hS, hl⟩ := hI
        refine lv_iload_n hx hb dX3_firstBottleIn_25 rfl (lv_at hl 0 rfl) ?_
        refine lv_bipush (v := 32) hx hb dX3_firstBottleIn_26 (by decide) ?_
        refine lv_icmp_ge (tgt := 49) hx hb dX3_firstBottleIn_28 (by decide) (fun c28 => ?_) (fun c28 => absurd (nI_le (Nat.le_refl 32) (by decide)) c28)
        refine lv_aload_n hx hb dX3_firstBottleIn_49 rfl (lv_at hl 1 rfl) ?_
        refine va_get (D := D) (ci := 3) (v := .int ys) (C := RX3) (T := TX3) (N := 13) hx hb hts (by decide +kernel) hown hK hP (0) rfl rfl 6 (by decide) (hts (.fieldLink RX3 95 "VinegarLoftModel" "years" "I") (by decide +kernel)) (fun _ h9 => h9) rfl dX3_firstBottleIn_50 ?_
        refine lv_istore_n (lv' := [(1, .int ys), (0, .ref y)]) hx hb dX3_firstBottleIn_53 rfl hl (by decide) rfl (fun ls hl => ?_)
        refine lv_aload_n hx hb dX3_firstBottleIn_54 rfl (lv_at hl 1 rfl) ?_
        refine va_get (D := D) (ci := 3) (v := .int qf) (C := RX3) (T := TX3) (N := 13) hx hb hts (by decide +kernel) hown hK hP (0) rfl rfl 8 (by decide) (hts (.fieldLink RX3 27 "VinegarLoftModel" "quotaFrom" "I") (by decide +kernel)) (fun _ h9 => h9) rfl dX3_firstBottleIn_55 ?_
        refine lv_istore_n (lv' := [(2, .int qf), (1, .int ys), (0, .ref y)]) hx hb dX3_firstBottleIn_58 rfl hl (by decide) rfl (fun ls hl => ?_)
        refine lv_aload_n hx hb dX3_firstBottleIn_59 rfl (lv_at hl 2 rfl) ?_
        refine va_get (D := D) (ci := 3) (v := .double q) (C := RX3) (T := TX3) (N := 13) hx hb hts (by decide +kernel) hown hK hP (0) rfl rfl 7 (by decide) (hts (.fieldLink RX3 104 "VinegarLoftModel" "quota" "D") (by decide +kernel)) (fun _ h9 => h9) rfl dX3_firstBottleIn_60 ?_
        refine lv_dstore_n (lv' := [(3, .double q), (2, .int qf), (1, .int ys), (0, .ref y)]) hx hb dX3_firstBottleIn_63 rfl hl (by decide) rfl (fun ls hl => ?_)
        refine lv_iconst (v := 0) hx hb dX3_firstBottleIn_64 (by decide) ?_
        refine lv_istore (lv' := [(5, .int 0), (3, .double q), (2, .int qf), (1, .int ys), (0, .ref y)]) hx hb dX3_firstBottleIn_65 hl (by decide) rfl (fun ls hl => ?_)
        refine lv_iconst (v := 0) hx hb dX3_firstBottleIn_67 (by decide) ?_
        refine lv_istore (lv' := [(6, .int 0), (5, .int 0), (3, .double q), (2, .int qf), (1, .int ys), (0, .ref y)]) hx hb dX3_firstBottleIn_68 hl (by decide) rfl (fun ls hl => ?_)
        refine kW_up 60 (fun i H locs ls => ∃ (ys' : Int32) (q' : UInt64) (qf' : Int32), fbX wd zs wm n (60 - i) (i + 1) (stI wd zs wm n i h) = fbX wd zs wm n 60 1 h ∧ va_P D vwCl (modW y aw az ah ak cI cD (nI n) wm (ys') (q') (qf') yo ri ol 0 wd zs (stI wd zs wm n i h) (cpK 32 h kp)) H ∧ va_D A (modW y aw az ah ak cI cD (nI n) wm (ys') (q') (qf') yo ri ol 0 wd zs (stI wd zs wm n i h) (cpK 32 h kp)) ∧ va_S A s.heap H locs ∧ lv_has ls 13 [(6, .int 0), (5, .int (nI i)), (3, .double q), (2, .int qf), (1, .int ys), (0, .ref y)]) (fun i H locs ls hi hI ih => ?_) (fun H locs ls hI => ?_) ⟨ys, q, qf, rfl, hP, hD, hS, lv_sub hl [0, 1, 2, 3, 4, 5] rfl⟩
        · obtain ⟨ys', q', qf', e1, hP, hD, hS, hl⟩ := hI
          obtain ⟨⟨s1, s2, s3, s4, s5, s6, s7⟩, s8, s9, s10, s11⟩ := hok i hi
          obtain ⟨p1, p2, p3, p4⟩ := s1 h0
          rw [s8 h0] at p3 p4
          have e0 : 60 - i = (60 - (i + 1)) + 1 := by omega
          rw [e0] at e1
          have e1' : (if 0 < stR wd zs wm n (stI wd zs wm n i h) then nI (i + 1) else fbX wd zs wm n (60 - (i + 1)) (i + 1 + 1) (stI wd zs wm n (i + 1) h)) = fbX wd zs wm n 60 1 h := e1
          refine lv_iload hx hb dX3_firstBottleIn_70 (lv_at hl 1 rfl) ?_
          refine lv_bipush (v := 60) hx hb dX3_firstBottleIn_72 (by decide) ?_
          refine lv_icmp_ge (tgt := 124) hx hb dX3_firstBottleIn_74 (by decide) (fun c74 => absurd c74 (nI_ge (a := i) (b := 60) hi (by decide))) (fun c74 => ?_)
          refine lv_iload hx hb dX3_firstBottleIn_77 (lv_at hl 0 rfl) ?_
          refine lv_if_ne (tgt := 124) hx hb dX3_firstBottleIn_79 (by decide) (fun c79 => absurd c79 (fun h9 => h9 rfl)) (fun c79 => ?_)
          refine lv_aload_n hx hb dX3_firstBottleIn_82 rfl (lv_at hl 5 rfl) ?_
          refine lv_aload_n hx hb dX3_firstBottleIn_83 rfl (lv_at hl 5 rfl) ?_
          refine kr_d (W.runV (As := []) (rest := [.ref y]) ⟨hx, hb, hml, hown, hts⟩ (metX3_room l D y aw az ah ak cI cD n (by omega) wm (ys') (q') (qf') yo ri ol 0 wd zs (stI wd zs wm n i h) (cpK 32 h kp) p1) (cwV 0 hts gX3_firstBottleIn_X3_room rfl rfl rfl (by decide +kernel) ⟨Nat.le_of_ble_eq_true rfl, Nat.le_of_ble_eq_true rfl⟩) (prV 3 0 RX3 TX3 13 rfl rfl hP hK) rfl rfl hl.1 rfl (lv_room (Nat.le_of_ble_eq_true rfl)) dX3_firstBottleIn_84 ⟨Nat.le_of_ble_eq_true rfl, Nat.le_of_ble_eq_true rfl⟩) ?_
          refine kw_d (va_runV (As := [.double (FP.dsub (FP.i2d (zs 0)) ((stI wd zs wm n i h) 0))]) (rest := []) ⟨hx, hb, hml, hown, hts⟩ (metX3_pours l D H.size y aw az ah ak cI cD n (by omega) wm (ys') (q') (qf') yo ri ol 0 wd zs (stI wd zs wm n i h) (cpK 32 h kp) (FP.dsub (FP.i2d (zs 0)) ((stI wd zs wm n i h) 0)) p3 p4) (cwV 1 hts gX3_firstBottleIn_X3_pours rfl rfl rfl (by decide +kernel) ⟨Nat.le_of_ble_eq_true rfl, Nat.le_of_ble_eq_true rfl⟩) (pmV 3 0 RX3 TX3 13 rfl rfl hP hK hD) rfl rfl hl.1 rfl (lv_room (Nat.le_of_ble_eq_true rfl)) dX3_firstBottleIn_87 ⟨Nat.le_of_ble_eq_true rfl, Nat.le_of_ble_eq_true rfl⟩) hP hD hS hA (fun H locs hP hD hS => ?_)
          have hP : va_P D vwCl (modW y aw az ah ak cI cD (nI n) wm (ys') (q') (qf') yo ri ol 0 wd zs (poH (stI wd zs wm n i h) (FP.dsub (FP.i2d (zs 0)) ((stI wd zs wm n i h) 0))) (cpK 32 h kp)) H := hP
          have hD : va_D A (modW y aw az ah ak cI cD (nI n) wm (ys') (q') (qf') yo ri ol 0 wd zs (poH (stI wd zs wm n i h) (FP.dsub (FP.i2d (zs 0)) ((stI wd zs wm n i h) 0))) (cpK 32 h kp)) := hD
          rw [show poH (stI wd zs wm n i h) (FP.dsub (FP.i2d (zs 0)) ((stI wd zs wm n i h) 0)) = pmH n zs (stI wd zs wm n i h) (FP.i2d 100) from by unfold pmH; rw [if_neg h0, s8 h0]] at hP hD
          have hP : va_P D vwCl (modW y aw az ah ak cI cD (nI n) wm (ys') (q') (qf') yo ri ol 0 wd zs (pmH n zs (stI wd zs wm n i h) (FP.i2d 100)) (cpK 32 h kp)) H := hP
          have hD : va_D A (modW y aw az ah ak cI cD (nI n) wm (ys') (q') (qf') yo ri ol 0 wd zs (pmH n zs (stI wd zs wm n i h) (FP.i2d 100)) (cpK 32 h kp)) := hD
          refine lv_dstore (lv' := [(7, .double (poR (FP.dsub (FP.i2d (zs 0)) ((stI wd zs wm n i h) 0)))), (6, .int 0), (5, .int (nI i)), (3, .double q), (2, .int qf), (1, .int ys), (0, .ref y)]) hx hb dX3_firstBottleIn_90 hl (by decide) rfl (fun ls hl => ?_)
          refine lv_aload_n hx hb dX3_firstBottleIn_92 rfl (lv_at hl 6 rfl) ?_
          refine kw_d (va_runV (As := []) (rest := []) ⟨hx, hb, hml, hown, hts⟩ (metX3_topsUp l D H.size y aw az ah ak cI cD n (by omega) wm (ys') (q') (qf') yo ri ol 0 wd zs (pmH n zs (stI wd zs wm n i h) (FP.i2d 100)) (cpK 32 h kp) s2 s9) (cwV 0 hts gX3_firstBottleIn_X3_topsUp rfl rfl rfl (by decide +kernel) ⟨Nat.le_of_ble_eq_true rfl, Nat.le_of_ble_eq_true rfl⟩) (pmV 3 0 RX3 TX3 13 rfl rfl hP hK hD) rfl rfl hl.1 rfl (lv_room (Nat.le_of_ble_eq_true rfl)) dX3_firstBottleIn_93 ⟨Nat.le_of_ble_eq_true rfl, Nat.le_of_ble_eq_true rfl⟩) hP hD hS hA (fun H locs hP hD hS => ?_)
          have hP : va_P D vwCl (modW y aw az ah ak cI cD (nI n) wm (ys') (q') (qf') yo ri ol 0 wd zs (toH zs (n - 1) (pmH n zs (stI wd zs wm n i h) (FP.i2d 100))) (cpK 32 h kp)) H := hP
          have hD : va_D A (modW y aw az ah ak cI cD (nI n) wm (ys') (q') (qf') yo ri ol 0 wd zs (toH zs (n - 1) (pmH n zs (stI wd zs wm n i h) (FP.i2d 100))) (cpK 32 h kp)) := hD
          refine lv_dstore (lv' := [(9, .double (toS zs (n - 1) (pmH n zs (stI wd zs wm n i h) (FP.i2d 100)) 0)), (7, .double (poR (FP.dsub (FP.i2d (zs 0)) ((stI wd zs wm n i h) 0)))), (6, .int 0), (5, .int (nI i)), (3, .double q), (2, .int qf), (1, .int ys), (0, .ref y)]) hx hb dX3_firstBottleIn_96 hl (by decide) rfl (fun ls hl => ?_)
          refine lv_aload_n hx hb dX3_firstBottleIn_98 rfl (lv_at hl 7 rfl) ?_
          refine kw_d (va_runV (As := []) (rest := []) ⟨hx, hb, hml, hown, hts⟩ (metX3_passes l D H.size y aw az ah ak cI cD n (by omega) wm (ys') (q') (qf') yo ri ol 0 wd zs (toH zs (n - 1) (pmH n zs (stI wd zs wm n i h) (FP.i2d 100))) (cpK 32 h kp) s3 s4 s10 s5 s6) (cwV 0 hts gX3_firstBottleIn_X3_passes rfl rfl rfl (by decide +kernel) ⟨Nat.le_of_ble_eq_true rfl, Nat.le_of_ble_eq_true rfl⟩) (pmV 3 0 RX3 TX3 13 rfl rfl hP hK hD) rfl rfl hl.1 rfl (lv_room (Nat.le_of_ble_eq_true rfl)) dX3_firstBottleIn_99 ⟨Nat.le_of_ble_eq_true rfl, Nat.le_of_ble_eq_true rfl⟩) hP hD hS hA (fun H locs hP hD hS => ?_)
          have hP : va_P D vwCl (modW y aw az ah ak cI cD (nI n) wm (ys' + 1) (quv (stI wd zs wm n (i + 1) h) (elO (stI wd zs wm n (i + 1) h) n)) (encO (elO (stI wd zs wm n (i + 1) h) n)) yo ri ol 0 wd zs (stI wd zs wm n (i + 1) h) (cpK 32 h kp)) H := hP
          have hD : va_D A (modW y aw az ah ak cI cD (nI n) wm (ys' + 1) (quv (stI wd zs wm n (i + 1) h) (elO (stI wd zs wm n (i + 1) h) n)) (encO (elO (stI wd zs wm n (i + 1) h) n)) yo ri ol 0 wd zs (stI wd zs wm n (i + 1) h) (cpK 32 h kp)) := hD
          refine lv_dstore (lv' := [(11, .double (agS wd (drv wm) (toH zs (n - 1) (pmH n zs (stI wd zs wm n i h) (FP.i2d 100))) n)), (9, .double (toS zs (n - 1) (pmH n zs (stI wd zs wm n i h) (FP.i2d 100)) 0)), (7, .double (poR (FP.dsub (FP.i2d (zs 0)) ((stI wd zs wm n i h) 0)))), (6, .int 0), (5, .int (nI i)), (3, .double q), (2, .int qf), (1, .int ys), (0, .ref y)]) hx hb dX3_firstBottleIn_102 hl (by decide) rfl (fun ls hl => ?_)
          refine lv_iinc (v := nI (i + 1)) (lv' := [(5, .int (nI (i + 1))), (11, .double (agS wd (drv wm) (toH zs (n - 1) (pmH n zs (stI wd zs wm n i h) (FP.i2d 100))) n)), (9, .double (toS zs (n - 1) (pmH n zs (stI wd zs wm n i h) (FP.i2d 100)) 0)), (7, .double (poR (FP.dsub (FP.i2d (zs 0)) ((stI wd zs wm n i h) 0)))), (6, .int 0), (3, .double q), (2, .int qf), (1, .int ys), (0, .ref y)]) hx hb dX3_firstBottleIn_104 hl (k := 4) rfl (nI_1 i) (by decide) rfl (fun ls hl => ?_)
          refine lv_aload_n hx hb dX3_firstBottleIn_107 rfl (lv_at hl 8 rfl) ?_
          refine kr_i (W.runV (As := []) (rest := []) ⟨hx, hb, hml, hown, hts⟩ (metX3_bottlesNow l D y aw az ah ak cI cD n (by omega) wm (ys' + 1) (quv (stI wd zs wm n (i + 1) h) (elO (stI wd zs wm n (i + 1) h) n)) (encO (elO (stI wd zs wm n (i + 1) h) n)) yo ri ol 0 wd zs (stI wd zs wm n (i + 1) h) (cpK 32 h kp) s5 s7 s11) (cwV 0 hts gX3_firstBottleIn_X3_bottlesNow rfl rfl rfl (by decide +kernel) ⟨Nat.le_of_ble_eq_true rfl, Nat.le_of_ble_eq_true rfl⟩) (prV 3 0 RX3 TX3 13 rfl rfl hP hK) rfl rfl hl.1 rfl (lv_room (Nat.le_of_ble_eq_true rfl)) dX3_firstBottleIn_108 ⟨Nat.le_of_ble_eq_true rfl, Nat.le_of_ble_eq_true rfl⟩) ?_
          refine lv_if_le (tgt := 118) hx hb dX3_firstBottleIn_111 (by decide) (fun c111 => ?_) (fun c111 => ?_)
          · refine lv_iconst (v := 0) hx hb dX3_firstBottleIn_118 (by decide) ?_
            refine lv_istore (lv' := [(6, .int 0), (5, .int (nI (i + 1))), (11, .double (agS wd (drv wm) (toH zs (n - 1) (pmH n zs (stI wd zs wm n i h) (FP.i2d 100))) n)), (9, .double (toS zs (n - 1) (pmH n zs (stI wd zs wm n i h) (FP.i2d 100)) 0)), (7, .double (poR (FP.dsub (FP.i2d (zs 0)) ((stI wd zs wm n i h) 0)))), (3, .double q), (2, .int qf), (1, .int ys), (0, .ref y)]) hx hb dX3_firstBottleIn_119 hl (by decide) rfl (fun ls hl => ?_)
            refine lv_goto (tgt := 70) hx hb dX3_firstBottleIn_121 (by decide) ?_
            have e2 : fbX wd zs wm n (60 - (i + 1)) (i + 1 + 1) (stI wd zs wm n (i + 1) h) = fbX wd zs wm n 60 1 h := by rw [← e1', if_neg (show ¬ 0 < stR wd zs wm n (stI wd zs wm n i h) from i32_nlt c111)]
            exact ih H locs ls ⟨_, _, _, e2, hP, hD, hS, lv_sub hl [0, 1, 5, 6, 7, 8] rfl⟩
          · refine lv_iconst (v := 1) hx hb dX3_firstBottleIn_114 (by decide) ?_
            refine lv_goto (tgt := 119) hx hb dX3_firstBottleIn_115 (by decide) ?_
            refine lv_istore (lv' := [(6, .int 1), (5, .int (nI (i + 1))), (11, .double (agS wd (drv wm) (toH zs (n - 1) (pmH n zs (stI wd zs wm n i h) (FP.i2d 100))) n)), (9, .double (toS zs (n - 1) (pmH n zs (stI wd zs wm n i h) (FP.i2d 100)) 0)), (7, .double (poR (FP.dsub (FP.i2d (zs 0)) ((stI wd zs wm n i h) 0)))), (3, .double q), (2, .int qf), (1, .int ys), (0, .ref y)]) hx hb dX3_firstBottleIn_119 hl (by decide) rfl (fun ls hl => ?_)
            refine lv_goto (tgt := 70) hx hb dX3_firstBottleIn_121 (by decide) ?_
            refine lv_iload hx hb dX3_firstBottleIn_70 (lv_at hl 1 rfl) ?_
            refine lv_bipush (v := 60) hx hb dX3_firstBottleIn_72 (by decide) ?_
            refine lv_icmp_ge (tgt := 124) hx hb dX3_firstBottleIn_74 (by decide) (fun c74 => ?_) (fun c74 => ?_)
            · have er : nI (i + 1) = fbv wd zs wm n h qf q := by unfold fbv; rw [if_neg (i32_nlt c9), ← e1', if_pos (show 0 < stR wd zs wm n (stI wd zs wm n i h) from i32_pos c111)]
              have hz : ∀ k, 32 ≤ k → h k = stI wd zs wm n (i + 1) h k := fun k hk => ((show zerH n h from hz3 0) k (Or.inl hk)).trans ((hz3 (i + 1)) k (Or.inl hk)).symm
              generalize quv (stI wd zs wm n (i + 1) h) (elO (stI wd zs wm n (i + 1) h) n) = qc at hP hD
              generalize encO (elO (stI wd zs wm n (i + 1) h) n) = fc at hP hD
              generalize stI wd zs wm n (i + 1) h = hc at hP hD hz
              generalize nI (i + 1) = v5 at hl er
              have hl : lv_has ls 13 [(6, .int 1), (5, .int v5), (3, .double q), (2, .int qf), (1, .int ys), (0, .ref y)] := lv_sub hl [0, 1, 5, 6, 7, 8] rfl
              have hP : va_P D vwCl (modW y aw az ah ak cI cD (nI n) wm (ys' + 1) qc fc yo ri ol 0 wd zs hc (cpK 32 h kp)) H := hP
              have hD : va_D A (modW y aw az ah ak cI cD (nI n) wm (ys' + 1) qc fc yo ri ol 0 wd zs hc (cpK 32 h kp)) := hD
              refine lv_iconst (v := 0) hx hb dX3_firstBottleIn_124 (by decide) ?_
              refine lv_istore (lv' := [(7, .int 0), (6, .int 1), (5, .int v5), (3, .double q), (2, .int qf), (1, .int ys), (0, .ref y)]) hx hb dX3_firstBottleIn_125 hl (by decide) rfl (fun ls hl => ?_)
              rw [show hc = cpK 0 h hc from cpK_0.symm] at hP hD
              refine kW_up 32 (fun i H locs ls => va_P D vwCl (modW y aw az ah ak cI cD (nI n) wm (ys' + 1) qc fc yo ri ol 0 wd zs (cpK i h hc) (cpK 32 h kp)) H ∧ va_D A (modW y aw az ah ak cI cD (nI n) wm (ys' + 1) qc fc yo ri ol 0 wd zs (cpK i h hc) (cpK 32 h kp)) ∧ va_S A s.heap H locs ∧ lv_has ls 13 [(7, .int (nI i)), (6, .int 1), (5, .int v5), (3, .double q), (2, .int qf), (1, .int ys), (0, .ref y)]) (fun i H locs ls hi hI ih => ?_) (fun H locs ls hI => ?_) ⟨hP, hD, hS, lv_sub hl [0, 1, 2, 3, 4, 5, 6] rfl⟩
              · obtain ⟨hP, hD, hS, hl⟩ := hI
                refine lv_iload hx hb dX3_firstBottleIn_127 (lv_at hl 0 rfl) ?_
                refine lv_bipush (v := 32) hx hb dX3_firstBottleIn_129 (by decide) ?_
                refine lv_icmp_ge (tgt := 154) hx hb dX3_firstBottleIn_131 (by decide) (fun c131 => absurd c131 (nI_ge (a := i) (b := 32) hi (by decide))) (fun c131 => ?_)
                refine lv_aload_n hx hb dX3_firstBottleIn_134 rfl (lv_at hl 6 rfl) ?_
                refine va_get (D := D) (ci := 3) (v := .ref ah) (C := RX3) (T := TX3) (N := 13) hx hb hts (by decide +kernel) hown hK hP (0) rfl rfl 2 (by decide) (hts (.fieldLink RX3 16 "VinegarLoftModel" "holds" "[D") (by decide +kernel)) (fun _ h9 => h9) rfl dX3_firstBottleIn_135 ?_
                refine lv_iload hx hb dX3_firstBottleIn_138 (lv_at hl 0 rfl) ?_
                refine lv_aload_n hx hb dX3_firstBottleIn_140 rfl (lv_at hl 6 rfl) ?_
                refine va_get (D := D) (ci := 3) (v := .ref ak) (C := RX3) (T := TX3) (N := 13) hx hb hts (by decide +kernel) hown hK hP (0) rfl rfl 3 (by decide) (hts (.fieldLink RX3 20 "VinegarLoftModel" "copy" "[D") (by decide +kernel)) (fun _ h9 => h9) rfl dX3_firstBottleIn_141 ?_
                refine lv_iload hx hb dX3_firstBottleIn_144 (lv_at hl 0 rfl) ?_
                refine kx_dald hx hb hK hP 4 1 rfl rfl (j := i) rfl (show i < 32 by omega) (by decide) dX3_firstBottleIn_146 ?_
                refine kd_eq (cpK_r (show i < 32 by omega) : cpK 32 h kp i = h i) ?_
                refine kx_dast hx hb hK hP hD hS 3 1 rfl rfl (j := i) rfl (show i < 32 by omega) (by decide) dX3_firstBottleIn_147 (fun H locs hP hD hS => ?_)
                have hP : va_P D vwCl (modW y aw az ah ak cI cD (nI n) wm (ys' + 1) qc fc yo ri ol 0 wd zs (vf_upd (cpK i h hc) i (h i)) (cpK 32 h kp)) H := hP
                have hD : va_D A (modW y aw az ah ak cI cD (nI n) wm (ys' + 1) qc fc yo ri ol 0 wd zs (vf_upd (cpK i h hc) i (h i)) (cpK 32 h kp)) := hD
                refine lv_iinc (v := nI (i + 1)) (lv' := [(7, .int (nI (i + 1))), (6, .int 1), (5, .int v5), (3, .double q), (2, .int qf), (1, .int ys), (0, .ref y)]) hx hb dX3_firstBottleIn_148 hl (k := 0) rfl (nI_1 i) (by decide) rfl (fun ls hl => ?_)
                refine lv_goto (tgt := 127) hx hb dX3_firstBottleIn_151 (by decide) ?_
                rw [cpK_s] at hP hD
                exact ih H locs ls ⟨hP, hD, hS, lv_sub hl [0, 1, 2, 3, 4, 5, 6] rfl⟩
              · obtain ⟨hP, hD, hS, hl⟩ := hI
                rw [cpK_all hz] at hP hD
                refine lv_iload hx hb dX3_firstBottleIn_127 (lv_at hl 0 rfl) ?_
                refine lv_bipush (v := 32) hx hb dX3_firstBottleIn_129 (by decide) ?_
                refine lv_icmp_ge (tgt := 154) hx hb dX3_firstBottleIn_131 (by decide) (fun c131 => ?_) (fun c131 => absurd (nI_le (Nat.le_refl 32) (by decide)) c131)
                refine lv_aload_n hx hb dX3_firstBottleIn_154 rfl (lv_at hl 6 rfl) ?_
                refine lv_iload_n hx hb dX3_firstBottleIn_155 rfl (lv_at hl 5 rfl) ?_
                refine va_put (D := D) (ci := 3) (v := .int ys) (ty := .int) (C := RX3) (T := TX3) (N := 13) hx hb hts (by decide +kernel) tyX3 tyX3_ok nmX3 hown hK hP hD hS (0) rfl rfl 6 (by decide) (hts (.fieldLink RX3 95 "VinegarLoftModel" "years" "I") (by decide +kernel)) (fun _ h9 => h9) rfl (by decide +kernel) rfl rfl (Nat.le_of_ble_eq_true rfl) dX3_firstBottleIn_156 (fun H locs hP hD hS => ?_)
                have hP : va_P D vwCl (modW y aw az ah ak cI cD (nI n) wm ys qc fc yo ri ol 0 wd zs h (cpK 32 h kp)) H := hP
                have hD : va_D A (modW y aw az ah ak cI cD (nI n) wm ys qc fc yo ri ol 0 wd zs h (cpK 32 h kp)) := hD
                refine lv_aload_n hx hb dX3_firstBottleIn_159 rfl (lv_at hl 6 rfl) ?_
                refine lv_iload_n hx hb dX3_firstBottleIn_160 rfl (lv_at hl 4 rfl) ?_
                refine va_put (D := D) (ci := 3) (v := .int qf) (ty := .int) (C := RX3) (T := TX3) (N := 13) hx hb hts (by decide +kernel) tyX3 tyX3_ok nmX3 hown hK hP hD hS (0) rfl rfl 8 (by decide) (hts (.fieldLink RX3 27 "VinegarLoftModel" "quotaFrom" "I") (by decide +kernel)) (fun _ h9 => h9) rfl (by decide +kernel) rfl rfl (Nat.le_of_ble_eq_true rfl) dX3_firstBottleIn_161 (fun H locs hP hD hS => ?_)
                have hP : va_P D vwCl (modW y aw az ah ak cI cD (nI n) wm ys qc qf yo ri ol 0 wd zs h (cpK 32 h kp)) H := hP
                have hD : va_D A (modW y aw az ah ak cI cD (nI n) wm ys qc qf yo ri ol 0 wd zs h (cpK 32 h kp)) := hD
                refine lv_aload_n hx hb dX3_firstBottleIn_164 rfl (lv_at hl 6 rfl) ?_
                refine lv_dload_n hx hb dX3_firstBottleIn_165 rfl (lv_at hl 3 rfl) ?_
                refine va_put (D := D) (ci := 3) (v := .double q) (ty := .double) (C := RX3) (T := TX3) (N := 13) hx hb hts (by decide +kernel) tyX3 tyX3_ok nmX3 hown hK hP hD hS (0) rfl rfl 7 (by decide) (hts (.fieldLink RX3 104 "VinegarLoftModel" "quota" "D") (by decide +kernel)) (fun _ h9 => h9) rfl (by decide +kernel) rfl rfl (Nat.le_of_ble_eq_true rfl) dX3_firstBottleIn_166 (fun H locs hP hD hS => ?_)
                have hP : va_P D vwCl (modW y aw az ah ak cI cD (nI n) wm ys q qf yo ri ol 0 wd zs h (cpK 32 h kp)) H := hP
                have hD : va_D A (modW y aw az ah ak cI cD (nI n) wm ys q qf yo ri ol 0 wd zs h (cpK 32 h kp)) := hD
                refine lv_iload hx hb dX3_firstBottleIn_169 (lv_at hl 1 rfl) ?_
                refine lv_if_eq (tgt := 179) hx hb dX3_firstBottleIn_171 (by decide) (fun c171 => absurd c171 (by decide)) (fun c171 => ?_)
                refine lv_iload hx hb dX3_firstBottleIn_174 (lv_at hl 2 rfl) ?_
                refine lv_goto (tgt := 180) hx hb dX3_firstBottleIn_176 (by decide) ?_
                exact W.iret hx hb hr (fun t9 ht9 hW => ⟨⟨_, (cpK 32 h kp), rfl, er, by rw [ht9]; exact hP, va_K.moved hW.alike hK, hD⟩, hS.F ht9⟩) hS.2.2 dX3_firstBottleIn_180
            · refine lv_iload hx hb dX3_firstBottleIn_77 (lv_at hl 0 rfl) ?_
              refine lv_if_ne (tgt := 124) hx hb dX3_firstBottleIn_79 (by decide) (fun c79 => ?_) (fun c79 => absurd c79 (by decide))
              have er : nI (i + 1) = fbv wd zs wm n h qf q := by unfold fbv; rw [if_neg (i32_nlt c9), ← e1', if_pos (show 0 < stR wd zs wm n (stI wd zs wm n i h) from i32_pos c111)]
              have hz : ∀ k, 32 ≤ k → h k = stI wd zs wm n (i + 1) h k := fun k hk => ((show zerH n h from hz3 0) k (Or.inl hk)).trans ((hz3 (i + 1)) k (Or.inl hk)).symm
              generalize quv (stI wd zs wm n (i + 1) h) (elO (stI wd zs wm n (i + 1) h) n) = qc at hP hD
              generalize encO (elO (stI wd zs wm n (i + 1) h) n) = fc at hP hD
              generalize stI wd zs wm n (i + 1) h = hc at hP hD hz
              generalize nI (i + 1) = v5 at hl er
              have hl : lv_has ls 13 [(6, .int 1), (5, .int v5), (3, .double q), (2, .int qf), (1, .int ys), (0, .ref y)] := lv_sub hl [0, 1, 5, 6, 7, 8] rfl
              have hP : va_P D vwCl (modW y aw az ah ak cI cD (nI n) wm (ys' + 1) qc fc yo ri ol 0 wd zs hc (cpK 32 h kp)) H := hP
              have hD : va_D A (modW y aw az ah ak cI cD (nI n) wm (ys' + 1) qc fc yo ri ol 0 wd zs hc (cpK 32 h kp)) := hD
              refine lv_iconst (v := 0) hx hb dX3_firstBottleIn_124 (by decide) ?_
              refine lv_istore (lv' := [(7, .int 0), (6, .int 1), (5, .int v5), (3, .double q), (2, .int qf), (1, .int ys), (0, .ref y)]) hx hb dX3_firstBottleIn_125 hl (by decide) rfl (fun ls hl => ?_)
              rw [show hc = cpK 0 h hc from cpK_0.symm] at hP hD
              refine kW_up 32 (fun i H locs ls => va_P D vwCl (modW y aw az ah ak cI cD (nI n) wm (ys' + 1) qc fc yo ri ol 0 wd zs (cpK i h hc) (cpK 32 h kp)) H ∧ va_D A (modW y aw az ah ak cI cD (nI n) wm (ys' + 1) qc fc yo ri ol 0 wd zs (cpK i h hc) (cpK 32 h kp)) ∧ va_S A s.heap H locs ∧ lv_has ls 13 [(7, .int (nI i)), (6, .int 1), (5, .int v5), (3, .double q), (2, .int qf), (1, .int ys), (0, .ref y)]) (fun i H locs ls hi hI ih => ?_) (fun H locs ls hI => ?_) ⟨hP, hD, hS, lv_sub hl [0, 1, 2, 3, 4, 5, 6] rfl⟩
              · obtain ⟨hP, hD, hS, hl⟩ := hI
                refine lv_iload hx hb dX3_firstBottleIn_127 (lv_at hl 0 rfl) ?_
                refine lv_bipush (v := 32) hx hb dX3_firstBottleIn_129 (by decide) ?_
                refine lv_icmp_ge (tgt := 154) hx hb dX3_firstBottleIn_131 (by decide) (fun c131 => absurd c131 (nI_ge (a := i) (b := 32) hi (by decide))) (fun c131 => ?_)
                refine lv_aload_n hx hb dX3_firstBottleIn_134 rfl (lv_at hl 6 rfl) ?_
                refine va_get (D := D) (ci := 3) (v := .ref ah) (C := RX3) (T := TX3) (N := 13) hx hb hts (by decide +kernel) hown hK hP (0) rfl rfl 2 (by decide) (hts (.fieldLink RX3 16 "VinegarLoftModel" "holds" "[D") (by decide +kernel)) (fun _ h9 => h9) rfl dX3_firstBottleIn_135 ?_
                refine lv_iload hx hb dX3_firstBottleIn_138 (lv_at hl 0 rfl) ?_
                refine lv_aload_n hx hb dX3_firstBottleIn_140 rfl (lv_at hl 6 rfl) ?_
                refine va_get (D := D) (ci := 3) (v := .ref ak) (C := RX3) (T := TX3) (N := 13) hx hb hts (by decide +kernel) hown hK hP (0) rfl rfl 3 (by decide) (hts (.fieldLink RX3 20 "VinegarLoftModel" "copy" "[D") (by decide +kernel)) (fun _ h9 => h9) rfl dX3_firstBottleIn_141 ?_
                refine lv_iload hx hb dX3_firstBottleIn_144 (lv_at hl 0 rfl) ?_
                refine kx_dald hx hb hK hP 4 1 rfl rfl (j := i) rfl (show i < 32 by omega) (by decide) dX3_firstBottleIn_146 ?_
                refine kd_eq (cpK_r (show i < 32 by omega) : cpK 32 h kp i = h i) ?_
                refine kx_dast hx hb hK hP hD hS 3 1 rfl rfl (j := i) rfl (show i < 32 by omega) (by decide) dX3_firstBottleIn_147 (fun H locs hP hD hS => ?_)
                have hP : va_P D vwCl (modW y aw az ah ak cI cD (nI n) wm (ys' + 1) qc fc yo ri ol 0 wd zs (vf_upd (cpK i h hc) i (h i)) (cpK 32 h kp)) H := hP
                have hD : va_D A (modW y aw az ah ak cI cD (nI n) wm (ys' + 1) qc fc yo ri ol 0 wd zs (vf_upd (cpK i h hc) i (h i)) (cpK 32 h kp)) := hD
                refine lv_iinc (v := nI (i + 1)) (lv' := [(7, .int (nI (i + 1))), (6, .int 1), (5, .int v5), (3, .double q), (2, .int qf), (1, .int ys), (0, .ref y)]) hx hb dX3_firstBottleIn_148 hl (k := 0) rfl (nI_1 i) (by decide) rfl (fun ls hl => ?_)
                refine lv_goto (tgt := 127) hx hb dX3_firstBottleIn_151 (by decide) ?_
                rw [cpK_s] at hP hD
                exact ih H locs ls ⟨hP, hD, hS, lv_sub hl [0, 1, 2, 3, 4, 5, 6] rfl⟩
              · obtain ⟨hP, hD, hS, hl⟩ := hI
                rw [cpK_all hz] at hP hD
                refine lv_iload hx hb dX3_firstBottleIn_127 (lv_at hl 0 rfl) ?_
                refine lv_bipush (v := 32) hx hb dX3_firstBottleIn_129 (by decide) ?_
                refine lv_icmp_ge (tgt := 154) hx hb dX3_firstBottleIn_131 (by decide) (fun c131 => ?_) (fun c131 => absurd (nI_le (Nat.le_refl 32) (by decide)) c131)
                refine lv_aload_n hx hb dX3_firstBottleIn_154 rfl (lv_at hl 6 rfl) ?_
                refine lv_iload_n hx hb dX3_firstBottleIn_155 rfl (lv_at hl 5 rfl) ?_
                refine va_put (D := D) (ci := 3) (v := .int ys) (ty := .int) (C := RX3) (T := TX3) (N := 13) hx hb hts (by decide +kernel) tyX3 tyX3_ok nmX3 hown hK hP hD hS (0) rfl rfl 6 (by decide) (hts (.fieldLink RX3 95 "VinegarLoftModel" "years" "I") (by decide +kernel)) (fun _ h9 => h9) rfl (by decide +kernel) rfl rfl (Nat.le_of_ble_eq_true rfl) dX3_firstBottleIn_156 (fun H locs hP hD hS => ?_)
                have hP : va_P D vwCl (modW y aw az ah ak cI cD (nI n) wm ys qc fc yo ri ol 0 wd zs h (cpK 32 h kp)) H := hP
                have hD : va_D A (modW y aw az ah ak cI cD (nI n) wm ys qc fc yo ri ol 0 wd zs h (cpK 32 h kp)) := hD
                refine lv_aload_n hx hb dX3_firstBottleIn_159 rfl (lv_at hl 6 rfl) ?_
                refine lv_iload_n hx hb dX3_firstBottleIn_160 rfl (lv_at hl 4 rfl) ?_
                refine va_put (D := D) (ci := 3) (v := .int qf) (ty := .int) (C := RX3) (T := TX3) (N := 13) hx hb hts (by decide +kernel) tyX3 tyX3_ok nmX3 hown hK hP hD hS (0) rfl rfl 8 (by decide) (hts (.fieldLink RX3 27 "VinegarLoftModel" "quotaFrom" "I") (by decide +kernel)) (fun _ h9 => h9) rfl (by decide +kernel) rfl rfl (Nat.le_of_ble_eq_true rfl) dX3_firstBottleIn_161 (fun H locs hP hD hS => ?_)
                have hP : va_P D vwCl (modW y aw az ah ak cI cD (nI n) wm ys qc qf yo ri ol 0 wd zs h (cpK 32 h kp)) H := hP
                have hD : va_D A (modW y aw az ah ak cI cD (nI n) wm ys qc qf yo ri ol 0 wd zs h (cpK 32 h kp)) := hD
                refine lv_aload_n hx hb dX3_firstBottleIn_164 rfl (lv_at hl 6 rfl) ?_
                refine lv_dload_n hx hb dX3_firstBottleIn_165 rfl (lv_at hl 3 rfl) ?_
                refine va_put (D := D) (ci := 3) (v := .double q) (ty := .double) (C := RX3) (T := TX3) (N := 13) hx hb hts (by decide +kernel) tyX3 tyX3_ok nmX3 hown hK hP hD hS (0) rfl rfl 7 (by decide) (hts (.fieldLink RX3 104 "VinegarLoftModel" "quota" "D") (by decide +kernel)) (fun _ h9 => h9) rfl (by decide +kernel) rfl rfl (Nat.le_of_ble_eq_true rfl) dX3_firstBottleIn_166 (fun H locs hP hD hS => ?_)
                have hP : va_P D vwCl (modW y aw az ah ak cI cD (nI n) wm ys q qf yo ri ol 0 wd zs h (cpK 32 h kp)) H := hP
                have hD : va_D A (modW y aw az ah ak cI cD (nI n) wm ys q qf yo ri ol 0 wd zs h (cpK 32 h kp)) := hD
                refine lv_iload hx hb dX3_firstBottleIn_169 (lv_at hl 1 rfl) ?_
                refine lv_if_eq (tgt := 179) hx hb dX3_firstBottleIn_171 (by decide) (fun c171 => absurd c171 (by decide)) (fun c171 => ?_)
                refine lv_iload hx hb dX3_firstBottleIn_174 (lv_at hl 2 rfl) ?_
                refine lv_goto (tgt := 180) hx hb dX3_firstBottleIn_176 (by decide) ?_
                exact W.iret hx hb hr (fun t9 ht9 hW => ⟨⟨_, (cpK 32 h kp), rfl, er, by rw [ht9]; exact hP, va_K.moved hW.alike hK, hD⟩, hS.F ht9⟩) hS.2.2 dX3_firstBottleIn_180
        · obtain ⟨ys', q', qf', e1, hP, hD, hS, hl⟩ := hI
          refine lv_iload hx hb dX3_firstBottleIn_70 (lv_at hl 1 rfl) ?_
          refine lv_bipush (v := 60) hx hb dX3_firstBottleIn_72 (by decide) ?_
          refine lv_icmp_ge (tgt := 124) hx hb dX3_firstBottleIn_74 (by decide) (fun c74 => ?_) (fun c74 => absurd (nI_le (Nat.le_refl 60) (by decide)) c74)
          have er : (-1 : Int32) = fbv wd zs wm n h qf q := by unfold fbv; rw [if_neg (i32_nlt c9), ← e1]; rfl
          have hz : ∀ k, 32 ≤ k → h k = stI wd zs wm n 60 h k := fun k hk => ((show zerH n h from hz3 0) k (Or.inl hk)).trans ((hz3 60) k (Or.inl hk)).symm
          generalize stI wd zs wm n 60 h = hc at hP hD hz
          have hP : va_P D vwCl (modW y aw az ah ak cI cD (nI n) wm (ys') (q') (qf') yo ri ol 0 wd zs hc (cpK 32 h kp)) H := hP
          have hD : va_D A (modW y aw az ah ak cI cD (nI n) wm (ys') (q') (qf') yo ri ol 0 wd zs hc (cpK 32 h kp)) := hD
          refine lv_iconst (v := 0) hx hb dX3_firstBottleIn_124 (by decide) ?_
          refine lv_istore (lv' := [(7, .int 0), (6, .int 0), (5, .int (nI 60)), (3, .double q), (2, .int qf), (1, .int ys), (0, .ref y)]) hx hb dX3_firstBottleIn_125 hl (by decide) rfl (fun ls hl => ?_)
          rw [show hc = cpK 0 h hc from cpK_0.symm] at hP hD
          refine kW_up 32 (fun i H locs ls => va_P D vwCl (modW y aw az ah ak cI cD (nI n) wm (ys') (q') (qf') yo ri ol 0 wd zs (cpK i h hc) (cpK 32 h kp)) H ∧ va_D A (modW y aw az ah ak cI cD (nI n) wm (ys') (q') (qf') yo ri ol 0 wd zs (cpK i h hc) (cpK 32 h kp)) ∧ va_S A s.heap H locs ∧ lv_has ls 13 [(7, .int (nI i)), (6, .int 0), (5, .int (nI 60)), (3, .double q), (2, .int qf), (1, .int ys), (0, .ref y)]) (fun i H locs ls hi hI ih => ?_) (fun H locs ls hI => ?_) ⟨hP, hD, hS, lv_sub hl [0, 1, 2, 3, 4, 5, 6] rfl⟩
          · obtain ⟨hP, hD, hS, hl⟩ := hI
            refine lv_iload hx hb dX3_firstBottleIn_127 (lv_at hl 0 rfl) ?_
            refine lv_bipush (v := 32) hx hb dX3_firstBottleIn_129 (by decide) ?_
            refine lv_icmp_ge (tgt := 154) hx hb dX3_firstBottleIn_131 (by decide) (fun c131 => absurd c131 (nI_ge (a := i) (b := 32) hi (by decide))) (fun c131 => ?_)
            refine lv_aload_n hx hb dX3_firstBottleIn_134 rfl (lv_at hl 6 rfl) ?_
            refine va_get (D := D) (ci := 3) (v := .ref ah) (C := RX3) (T := TX3) (N := 13) hx hb hts (by decide +kernel) hown hK hP (0) rfl rfl 2 (by decide) (hts (.fieldLink RX3 16 "VinegarLoftModel" "holds" "[D") (by decide +kernel)) (fun _ h9 => h9) rfl dX3_firstBottleIn_135 ?_
            refine lv_iload hx hb dX3_firstBottleIn_138 (lv_at hl 0 rfl) ?_
            refine lv_aload_n hx hb dX3_firstBottleIn_140 rfl (lv_at hl 6 rfl) ?_
            refine va_get (D := D) (ci := 3) (v := .ref ak) (C := RX3) (T := TX3) (N := 13) hx hb hts (by decide +kernel) hown hK hP (0) rfl rfl 3 (by decide) (hts (.fieldLink RX3 20 "VinegarLoftModel" "copy" "[D") (by decide +kernel)) (fun _ h9 => h9) rfl dX3_firstBottleIn_141 ?_
            refine lv_iload hx hb dX3_firstBottleIn_144 (lv_at hl 0 rfl) ?_
            refine kx_dald hx hb hK hP 4 1 rfl rfl (j := i) rfl (show i < 32 by omega) (by decide) dX3_firstBottleIn_146 ?_
            refine kd_eq (cpK_r (show i < 32 by omega) : cpK 32 h kp i = h i) ?_
            refine kx_dast hx hb hK hP hD hS 3 1 rfl rfl (j := i) rfl (show i < 32 by omega) (by decide) dX3_firstBottleIn_147 (fun H locs hP hD hS => ?_)
            have hP : va_P D vwCl (modW y aw az ah ak cI cD (nI n) wm (ys') (q') (qf') yo ri ol 0 wd zs (vf_upd (cpK i h hc) i (h i)) (cpK 32 h kp)) H := hP
            have hD : va_D A (modW y aw az ah ak cI cD (nI n) wm (ys') (q') (qf') yo ri ol 0 wd zs (vf_upd (cpK i h hc) i (h i)) (cpK 32 h kp)) := hD
            refine lv_iinc (v := nI (i + 1)) (lv' := [(7, .int (nI (i + 1))), (6, .int 0), (5, .int (nI 60)), (3, .double q), (2, .int qf), (1, .int ys), (0, .ref y)]) hx hb dX3_firstBottleIn_148 hl (k := 0) rfl (nI_1 i) (by decide) rfl (fun ls hl => ?_)
            refine lv_goto (tgt := 127) hx hb dX3_firstBottleIn_151 (by decide) ?_
            rw [cpK_s] at hP hD
            exact ih H locs ls ⟨hP, hD, hS, lv_sub hl [0, 1, 2, 3, 4, 5, 6] rfl⟩
          · obtain ⟨hP, hD, hS, hl⟩ := hI
            rw [cpK_all hz] at hP hD
            refine lv_iload hx hb dX3_firstBottleIn_127 (lv_at hl 0 rfl) ?_
            refine lv_bipush (v := 32) hx hb dX3_firstBottleIn_129 (by decide) ?_
            refine lv_icmp_ge (tgt := 154) hx hb dX3_firstBottleIn_131 (by decide) (fun c131 => ?_) (fun c131 => absurd (nI_le (Nat.le_refl 32) (by decide)) c131)
            refine lv_aload_n hx hb dX3_firstBottleIn_154 rfl (lv_at hl 6 rfl) ?_
            refine lv_iload_n hx hb dX3_firstBottleIn_155 rfl (lv_at hl 5 rfl) ?_
            refine va_put (D := D) (ci := 3) (v := .int ys) (ty := .int) (C := RX3) (T := TX3) (N := 13) hx hb hts (by decide +kernel) tyX3 tyX3_ok nmX3 hown hK hP hD hS (0) rfl rfl 6 (by decide) (hts (.fieldLink RX3 95 "VinegarLoftModel" "years" "I") (by decide +kernel)) (fun _ h9 => h9) rfl (by decide +kernel) rfl rfl (Nat.le_of_ble_eq_true rfl) dX3_firstBottleIn_156 (fun H locs hP hD hS => ?_)
            have hP : va_P D vwCl (modW y aw az ah ak cI cD (nI n) wm ys (q') (qf') yo ri ol 0 wd zs h (cpK 32 h kp)) H := hP
            have hD : va_D A (modW y aw az ah ak cI cD (nI n) wm ys (q') (qf') yo ri ol 0 wd zs h (cpK 32 h kp)) := hD
            refine lv_aload_n hx hb dX3_firstBottleIn_159 rfl (lv_at hl 6 rfl) ?_
            refine lv_iload_n hx hb dX3_firstBottleIn_160 rfl (lv_at hl 4 rfl) ?_
            refine va_put (D := D) (ci := 3) (v := .int qf) (ty := .int) (C := RX3) (T := TX3) (N := 13) hx hb hts (by decide +kernel) tyX3 tyX3_ok nmX3 hown hK hP hD hS (0) rfl rfl 8 (by decide) (hts (.fieldLink RX3 27 "VinegarLoftModel" "quotaFrom" "I") (by decide +kernel)) (fun _ h9 => h9) rfl (by decide +kernel) rfl rfl (Nat.le_of_ble_eq_true rfl) dX3_firstBottleIn_161 (fun H locs hP hD hS => ?_)
            have hP : va_P D vwCl (modW y aw az ah ak cI cD (nI n) wm ys (q') qf yo ri ol 0 wd zs h (cpK 32 h kp)) H := hP
            have hD : va_D A (modW y aw az ah ak cI cD (nI n) wm ys (q') qf yo ri ol 0 wd zs h (cpK 32 h kp)) := hD
            refine lv_aload_n hx hb dX3_firstBottleIn_164 rfl (lv_at hl 6 rfl) ?_
            refine lv_dload_n hx hb dX3_firstBottleIn_165 rfl (lv_at hl 3 rfl) ?_
            refine va_put (D := D) (ci := 3) (v := .double q) (ty := .double) (C := RX3) (T := TX3) (N := 13) hx hb hts (by decide +kernel) tyX3 tyX3_ok nmX3 hown hK hP hD hS (0) rfl rfl 7 (by decide) (hts (.fieldLink RX3 104 "VinegarLoftModel" "quota" "D") (by decide +kernel)) (fun _ h9 => h9) rfl (by decide +kernel) rfl rfl (Nat.le_of_ble_eq_true rfl) dX3_firstBottleIn_166 (fun H locs hP hD hS => ?_)
            have hP : va_P D vwCl (modW y aw az ah ak cI cD (nI n) wm ys q qf yo ri ol 0 wd zs h (cpK 32 h kp)) H := hP
            have hD : va_D A (modW y aw az ah ak cI cD (nI n) wm ys q qf yo ri ol 0 wd zs h (cpK 32 h kp)) := hD
            refine lv_iload hx hb dX3_firstBottleIn_169 (lv_at hl 1 rfl) ?_
            refine lv_if_eq (tgt := 179) hx hb dX3_firstBottleIn_171 (by decide) (fun c171 => ?_) (fun c171 => absurd rfl c171)
            refine lv_iconst (v := (-1)) hx hb dX3_firstBottleIn_179 (by decide) ?_
            exact W.iret hx hb hr (fun t9 ht9 hW => ⟨⟨_, (cpK 32 h kp), rfl, er, by rw [ht9]; exact hP, va_K.moved hW.alike hK, hD⟩, hS.F ht9⟩) hS.2.2 dX3_firstBottleIn_180
    · refine lv_iconst (v := (-1)) hx hb dX3_firstBottleIn_21 (by decide) ?_
      exact W.iret hx hb hr (fun t9 ht9 hW => ⟨⟨_, (kp), rfl, by have hn0 : n = 0 := (nI_e0 (by omega)).mp c18; subst hn0; unfold fbv; rw [if_neg (i32_nlt c9), fbX_0], by rw [ht9]; exact hP, va_K.moved hW.alike hK, hD⟩, hS.F ht9⟩) hS.2.2 dX3_firstBottleIn_22
  · refine lv_iconst (v := 0) hx hb dX3_firstBottleIn_12 (by decide) ?_
    exact W.iret hx hb hr (fun t9 ht9 hW => ⟨⟨_, (kp), rfl, by unfold fbv; rw [if_pos (i32_pos c9)], by rw [ht9]; exact hP, va_K.moved hW.alike hK, hD⟩, hS.F ht9⟩) hS.2.2 dX3_firstBottleIn_13
/-- the reference as it is made -/
abbrev YMK : Type := Nat × Nat × Nat × Nat × ClassId × ClassId
abbrev modU (y : Nat) (u : YMK) : va_W := modW y u.1 u.2.1 u.2.2.1 u.2.2.2.1 u.2.2.2.2.1 u.2.2.2.2.2 0 18 0 0 (-1) 0 0 0 0 (fun _ => 0) (fun _ => 0) (fun _ => 0) (fun _ => 0)
set_option maxHeartbeats 4000000 in
set_option maxRecDepth 100000 in
theorem metX3_init (l : Launch) (D : va_G) (sz : Nat) (y : Nat) : Met l yX3_init wsX3_init { frames := 1, cells := 4, slots := 80, locals := 12 } (Pm D [] [.ref y] [(y, .inr (3, [.null, .null, .null, .null, .int 0, .int 0, .int 0, .double 0, .int 0, .int 0, .int 0, .int 0, .int 0]))] sz) (va_Qv (fun (_ : YMK) => True) (fun u t => va_P D vwCl (modU y u) t.heap ∧ va_K D vwCl [(u.2.2.2.2.1, .int), (u.2.2.2.2.2, .double)] t ∧ va_D (va_A [(y, .inr (3, [.null, .null, .null, .null, .int 0, .int 0, .int 0, .double 0, .int 0, .int 0, .int 0, .int 0, .int 0]))] sz) (modU y u)) (va_A [(y, .inr (3, [.null, .null, .null, .null, .int 0, .int 0, .int 0, .double 0, .int 0, .int 0, .int 0, .int 0, .int 0]))] sz)) 4 80 (va_A [(y, .inr (3, [.null, .null, .null, .null, .int 0, .int 0, .int 0, .double 0, .int 0, .int 0, .int 0, .int 0, .int 0]))] sz) := by
  refine Met.ofW (cc := cX3_init) (maxL := 1) (ret := none) (by decide) rfl ?_
  intro p e s m args below meth c s₁ B hml hv
  obtain ⟨rfl, hsz, hP, hK, hD0⟩ := hv
  have hK0 := hK
  have hx := B.exec
  have hb := B.bytes
  have hr := B.returns
  have hts := atoms_spec (ws := wsX3_init) B.pre
  have hown : s.vm.findClass RX3 = some m.cls := findClass_of_methodNamed B.named
  have hlocks := B.notSynchronized
  have hin : meth.name = "<init>" := (name_of_methodNamed B.named B.method).1
  subst hsz
  have hD := hD0.self (sz := s.heap.size)
  generalize hAe : va_A [(y, .inr (3, [.null, .null, .null, .null, .int 0, .int 0, .int 0, .double 0, .int 0, .int 0, .int 0, .int 0, .int 0]))] s.heap.size = A at hD ⊢
  have hA : ∀ q : Nat, s.heap.size ≤ q → A q := fun q h => by rw [← hAe]; exact Or.inr h
  refine kW_H (fun H hH => ?_)
  have hP : va_P D vwCl [(y, .inr (3, [.null, .null, .null, .null, .int 0, .int 0, .int 0, .double 0, .int 0, .int 0, .int 0, .int 0, .int 0]))] H := by rw [hH]; exact hP
  have hS : va_S A s.heap H [] := by rw [hH]; exact va_S.rf
  have hl := lv_entry ([.ref y]) (n := 1) (Nat.le_of_ble_eq_true rfl)
  rw [lg_entry_eq]
  generalize (lg_sl ([.ref y]) ++ List.replicate (1 - (lg_sl ([.ref y])).length) Slot.unset).toArray = ls at hl ⊢
  have hl : lv_has ls 1 [(0, .ref y)] := hl
  refine lv_aload_n hx hb dX3_init_0 rfl (lv_at hl 0 rfl) ?_
  refine W.objInit hx hb hown (hts (.methodLink RX3 1 objectInit) (by decide +kernel)) (hts (.instanceMethod objectInit) (by decide +kernel)) (hts (.code objectInit ⟨#[0xb1]⟩ 1 none) (by decide +kernel)) rfl (by rw [hml]; exact hl.1) rfl dX3_init_1 (Nat.le_of_ble_eq_true rfl) (Nat.le_of_ble_eq_true rfl) ?_
  refine W.eq (g2 := F0 m 4 ls []) rfl ?_
  refine lv_aload_n hx hb dX3_init_4 rfl (lv_at hl 0 rfl) ?_
  refine lv_bipush (v := 8) hx hb dX3_init_5 (by decide) ?_
  refine va_newa (atype := .int) (ty := .int) (n := 8) (N' := 8) (a0 := (8, .inl (fun _ => 0))) hx hb (hts (.arrayClass .int) (by decide +kernel)) rfl (show va_K D vwCl [] s from hK0) hP hD hS hA (fun _ => rfl) (by decide) (by decide) (by decide) (Nat.le_of_ble_eq_true rfl) (Nat.le_of_ble_eq_true rfl) dX3_init_7 (fun aw cI H hK9 hP hD hS => ?_)
  have hK9 : va_K D vwCl [(cI, .int)] s := hK9
  have hKI := hK9
  have hP : va_P D vwCl ([(y, .inr (3, [.null, .null, .null, .null, .int 0, .int 0, .int 0, .double 0, .int 0, .int 0, .int 0, .int 0, .int 0])), (aw, .inl (cI, (8, .inl (fun _ => 0))))]) H := hP
  have hD : va_D A ([(y, .inr (3, [.null, .null, .null, .null, .int 0, .int 0, .int 0, .double 0, .int 0, .int 0, .int 0, .int 0, .int 0])), (aw, .inl (cI, (8, .inl (fun _ => 0))))]) := hD
  refine va_putF (D := D) (ci := 3) (v := .ref aw) (ty := .array (.int)) (C := RX3) (T := TX3) (N := 13) hx hb hts (by decide +kernel) tyX3 tyX3_ok nmX3 hown hK hP hD hS (0) rfl rfl 0 (by decide) (hts (.fieldLink RX3 7 "VinegarLoftModel" "wood" "[I") (by decide +kernel)) (fun _ h9 => h9) rfl hin rfl (by decide +kernel) rfl rfl (Nat.le_of_ble_eq_true rfl) dX3_init_9 (fun H locs hP hD hS => ?_)
  have hP : va_P D vwCl ([(y, .inr (3, [.ref aw, .null, .null, .null, .int 0, .int 0, .int 0, .double 0, .int 0, .int 0, .int 0, .int 0, .int 0])), (aw, .inl (cI, (8, .inl (fun _ => 0))))]) H := hP
  have hD : va_D A ([(y, .inr (3, [.ref aw, .null, .null, .null, .int 0, .int 0, .int 0, .double 0, .int 0, .int 0, .int 0, .int 0, .int 0])), (aw, .inl (cI, (8, .inl (fun _ => 0))))]) := hD
  refine lv_aload_n hx hb dX3_init_12 rfl (lv_at hl 0 rfl) ?_
  refine lv_bipush (v := 8) hx hb dX3_init_13 (by decide) ?_
  refine va_newa (atype := .int) (ty := .int) (n := 8) (N' := 8) (a0 := (8, .inl (fun _ => 0))) hx hb (hts (.arrayClass .int) (by decide +kernel)) rfl (show va_K D vwCl [] s from hK0) hP hD hS hA (fun _ => rfl) (by decide) (by decide) (by decide) (Nat.le_of_ble_eq_true rfl) (Nat.le_of_ble_eq_true rfl) dX3_init_15 (fun az c2 H hK9 hP hD hS => ?_)
  have hK9 : va_K D vwCl [(c2, .int)] s := hK9
  obtain rfl := va_K_pA hKI hK9
  have hP : va_P D vwCl ([(y, .inr (3, [.ref aw, .null, .null, .null, .int 0, .int 0, .int 0, .double 0, .int 0, .int 0, .int 0, .int 0, .int 0])), (aw, .inl (cI, (8, .inl (fun _ => 0)))), (az, .inl (cI, (8, .inl (fun _ => 0))))]) H := hP
  have hD : va_D A ([(y, .inr (3, [.ref aw, .null, .null, .null, .int 0, .int 0, .int 0, .double 0, .int 0, .int 0, .int 0, .int 0, .int 0])), (aw, .inl (cI, (8, .inl (fun _ => 0)))), (az, .inl (cI, (8, .inl (fun _ => 0))))]) := hD
  refine va_putF (D := D) (ci := 3) (v := .ref az) (ty := .array (.int)) (C := RX3) (T := TX3) (N := 13) hx hb hts (by decide +kernel) tyX3 tyX3_ok nmX3 hown hK hP hD hS (0) rfl rfl 1 (by decide) (hts (.fieldLink RX3 13 "VinegarLoftModel" "sizes" "[I") (by decide +kernel)) (fun _ h9 => h9) rfl hin rfl (by decide +kernel) rfl rfl (Nat.le_of_ble_eq_true rfl) dX3_init_17 (fun H locs hP hD hS => ?_)
  have hP : va_P D vwCl ([(y, .inr (3, [.ref aw, .ref az, .null, .null, .int 0, .int 0, .int 0, .double 0, .int 0, .int 0, .int 0, .int 0, .int 0])), (aw, .inl (cI, (8, .inl (fun _ => 0)))), (az, .inl (cI, (8, .inl (fun _ => 0))))]) H := hP
  have hD : va_D A ([(y, .inr (3, [.ref aw, .ref az, .null, .null, .int 0, .int 0, .int 0, .double 0, .int 0, .int 0, .int 0, .int 0, .int 0])), (aw, .inl (cI, (8, .inl (fun _ => 0)))), (az, .inl (cI, (8, .inl (fun _ => 0))))]) := hD
  refine lv_aload_n hx hb dX3_init_20 rfl (lv_at hl 0 rfl) ?_
  refine lv_bipush (v := 32) hx hb dX3_init_21 (by decide) ?_
  refine va_newa (atype := .double) (ty := .double) (n := 32) (N' := 32) (a0 := (32, .inr (.inr (.inr (.inl (fun _ => 0)))))) hx hb (hts (.arrayClass .double) (by decide +kernel)) rfl (show va_K D vwCl [] s from hK0) hP hD hS hA (fun _ => rfl) (by decide) (by decide) (by decide) (Nat.le_of_ble_eq_true rfl) (Nat.le_of_ble_eq_true rfl) dX3_init_23 (fun ah cD H hK9 hP hD hS => ?_)
  have hK9 : va_K D vwCl [(cD, .double)] s := hK9
  have hKD := hK9
  have hP : va_P D vwCl ([(y, .inr (3, [.ref aw, .ref az, .null, .null, .int 0, .int 0, .int 0, .double 0, .int 0, .int 0, .int 0, .int 0, .int 0])), (aw, .inl (cI, (8, .inl (fun _ => 0)))), (az, .inl (cI, (8, .inl (fun _ => 0)))), (ah, .inl (cD, (32, .inr (.inr (.inr (.inl (fun _ => 0)))))))]) H := hP
  have hD : va_D A ([(y, .inr (3, [.ref aw, .ref az, .null, .null, .int 0, .int 0, .int 0, .double 0, .int 0, .int 0, .int 0, .int 0, .int 0])), (aw, .inl (cI, (8, .inl (fun _ => 0)))), (az, .inl (cI, (8, .inl (fun _ => 0)))), (ah, .inl (cD, (32, .inr (.inr (.inr (.inl (fun _ => 0)))))))]) := hD
  refine va_putF (D := D) (ci := 3) (v := .ref ah) (ty := .array (.double)) (C := RX3) (T := TX3) (N := 13) hx hb hts (by decide +kernel) tyX3 tyX3_ok nmX3 hown hK hP hD hS (0) rfl rfl 2 (by decide) (hts (.fieldLink RX3 16 "VinegarLoftModel" "holds" "[D") (by decide +kernel)) (fun _ h9 => h9) rfl hin rfl (by decide +kernel) rfl rfl (Nat.le_of_ble_eq_true rfl) dX3_init_25 (fun H locs hP hD hS => ?_)
  have hP : va_P D vwCl ([(y, .inr (3, [.ref aw, .ref az, .ref ah, .null, .int 0, .int 0, .int 0, .double 0, .int 0, .int 0, .int 0, .int 0, .int 0])), (aw, .inl (cI, (8, .inl (fun _ => 0)))), (az, .inl (cI, (8, .inl (fun _ => 0)))), (ah, .inl (cD, (32, .inr (.inr (.inr (.inl (fun _ => 0)))))))]) H := hP
  have hD : va_D A ([(y, .inr (3, [.ref aw, .ref az, .ref ah, .null, .int 0, .int 0, .int 0, .double 0, .int 0, .int 0, .int 0, .int 0, .int 0])), (aw, .inl (cI, (8, .inl (fun _ => 0)))), (az, .inl (cI, (8, .inl (fun _ => 0)))), (ah, .inl (cD, (32, .inr (.inr (.inr (.inl (fun _ => 0)))))))]) := hD
  refine lv_aload_n hx hb dX3_init_28 rfl (lv_at hl 0 rfl) ?_
  refine lv_bipush (v := 32) hx hb dX3_init_29 (by decide) ?_
  refine va_newa (atype := .double) (ty := .double) (n := 32) (N' := 32) (a0 := (32, .inr (.inr (.inr (.inl (fun _ => 0)))))) hx hb (hts (.arrayClass .double) (by decide +kernel)) rfl (show va_K D vwCl [] s from hK0) hP hD hS hA (fun _ => rfl) (by decide) (by decide) (by decide) (Nat.le_of_ble_eq_true rfl) (Nat.le_of_ble_eq_true rfl) dX3_init_31 (fun ak c4 H hK9 hP hD hS => ?_)
  have hK9 : va_K D vwCl [(c4, .double)] s := hK9
  obtain rfl := va_K_pD hKD hK9
  have hP : va_P D vwCl ([(y, .inr (3, [.ref aw, .ref az, .ref ah, .null, .int 0, .int 0, .int 0, .double 0, .int 0, .int 0, .int 0, .int 0, .int 0])), (aw, .inl (cI, (8, .inl (fun _ => 0)))), (az, .inl (cI, (8, .inl (fun _ => 0)))), (ah, .inl (cD, (32, .inr (.inr (.inr (.inl (fun _ => 0))))))), (ak, .inl (cD, (32, .inr (.inr (.inr (.inl (fun _ => 0)))))))]) H := hP
  have hD : va_D A ([(y, .inr (3, [.ref aw, .ref az, .ref ah, .null, .int 0, .int 0, .int 0, .double 0, .int 0, .int 0, .int 0, .int 0, .int 0])), (aw, .inl (cI, (8, .inl (fun _ => 0)))), (az, .inl (cI, (8, .inl (fun _ => 0)))), (ah, .inl (cD, (32, .inr (.inr (.inr (.inl (fun _ => 0))))))), (ak, .inl (cD, (32, .inr (.inr (.inr (.inl (fun _ => 0)))))))]) := hD
  refine va_putF (D := D) (ci := 3) (v := .ref ak) (ty := .array (.double)) (C := RX3) (T := TX3) (N := 13) hx hb hts (by decide +kernel) tyX3 tyX3_ok nmX3 hown hK hP hD hS (0) rfl rfl 3 (by decide) (hts (.fieldLink RX3 20 "VinegarLoftModel" "copy" "[D") (by decide +kernel)) (fun _ h9 => h9) rfl hin rfl (by decide +kernel) rfl rfl (Nat.le_of_ble_eq_true rfl) dX3_init_33 (fun H locs hP hD hS => ?_)
  have hP : va_P D vwCl ([(y, .inr (3, [.ref aw, .ref az, .ref ah, .ref ak, .int 0, .int 0, .int 0, .double 0, .int 0, .int 0, .int 0, .int 0, .int 0])), (aw, .inl (cI, (8, .inl (fun _ => 0)))), (az, .inl (cI, (8, .inl (fun _ => 0)))), (ah, .inl (cD, (32, .inr (.inr (.inr (.inl (fun _ => 0))))))), (ak, .inl (cD, (32, .inr (.inr (.inr (.inl (fun _ => 0)))))))]) H := hP
  have hD : va_D A ([(y, .inr (3, [.ref aw, .ref az, .ref ah, .ref ak, .int 0, .int 0, .int 0, .double 0, .int 0, .int 0, .int 0, .int 0, .int 0])), (aw, .inl (cI, (8, .inl (fun _ => 0)))), (az, .inl (cI, (8, .inl (fun _ => 0)))), (ah, .inl (cD, (32, .inr (.inr (.inr (.inl (fun _ => 0))))))), (ak, .inl (cD, (32, .inr (.inr (.inr (.inl (fun _ => 0)))))))]) := hD
  refine lv_aload_n hx hb dX3_init_36 rfl (lv_at hl 0 rfl) ?_
  refine lv_bipush (v := 18) hx hb dX3_init_37 (by decide) ?_
  refine va_put (D := D) (ci := 3) (v := .int 18) (ty := .int) (C := RX3) (T := TX3) (N := 13) hx hb hts (by decide +kernel) tyX3 tyX3_ok nmX3 hown hK hP hD hS (0) rfl rfl 5 (by decide) (hts (.fieldLink RX3 23 "VinegarLoftModel" "warmth" "I") (by decide +kernel)) (fun _ h9 => h9) rfl (by decide +kernel) rfl rfl (Nat.le_of_ble_eq_true rfl) dX3_init_39 (fun H locs hP hD hS => ?_)
  have hP : va_P D vwCl ([(y, .inr (3, [.ref aw, .ref az, .ref ah, .ref ak, .int 0, .int 18, .int 0, .double 0, .int 0, .int 0, .int 0, .int 0, .int 0])), (aw, .inl (cI, (8, .inl (fun _ => 0)))), (az, .inl (cI, (8, .inl (fun _ => 0)))), (ah, .inl (cD, (32, .inr (.inr (.inr (.inl (fun _ => 0))))))), (ak, .inl (cD, (32, .inr (.inr (.inr (.inl (fun _ => 0)))))))]) H := hP
  have hD : va_D A ([(y, .inr (3, [.ref aw, .ref az, .ref ah, .ref ak, .int 0, .int 18, .int 0, .double 0, .int 0, .int 0, .int 0, .int 0, .int 0])), (aw, .inl (cI, (8, .inl (fun _ => 0)))), (az, .inl (cI, (8, .inl (fun _ => 0)))), (ah, .inl (cD, (32, .inr (.inr (.inr (.inl (fun _ => 0))))))), (ak, .inl (cD, (32, .inr (.inr (.inr (.inl (fun _ => 0)))))))]) := hD
  refine lv_aload_n hx hb dX3_init_42 rfl (lv_at hl 0 rfl) ?_
  refine lv_iconst (v := (-1)) hx hb dX3_init_43 (by decide) ?_
  refine va_put (D := D) (ci := 3) (v := .int (-1)) (ty := .int) (C := RX3) (T := TX3) (N := 13) hx hb hts (by decide +kernel) tyX3 tyX3_ok nmX3 hown hK hP hD hS (0) rfl rfl 8 (by decide) (hts (.fieldLink RX3 27 "VinegarLoftModel" "quotaFrom" "I") (by decide +kernel)) (fun _ h9 => h9) rfl (by decide +kernel) rfl rfl (Nat.le_of_ble_eq_true rfl) dX3_init_44 (fun H locs hP hD hS => ?_)
  have hP : va_P D vwCl ([(y, .inr (3, [.ref aw, .ref az, .ref ah, .ref ak, .int 0, .int 18, .int 0, .double 0, .int (-1), .int 0, .int 0, .int 0, .int 0])), (aw, .inl (cI, (8, .inl (fun _ => 0)))), (az, .inl (cI, (8, .inl (fun _ => 0)))), (ah, .inl (cD, (32, .inr (.inr (.inr (.inl (fun _ => 0))))))), (ak, .inl (cD, (32, .inr (.inr (.inr (.inl (fun _ => 0)))))))]) H := hP
  have hD : va_D A ([(y, .inr (3, [.ref aw, .ref az, .ref ah, .ref ak, .int 0, .int 18, .int 0, .double 0, .int (-1), .int 0, .int 0, .int 0, .int 0])), (aw, .inl (cI, (8, .inl (fun _ => 0)))), (az, .inl (cI, (8, .inl (fun _ => 0)))), (ah, .inl (cD, (32, .inr (.inr (.inr (.inl (fun _ => 0))))))), (ak, .inl (cD, (32, .inr (.inr (.inr (.inl (fun _ => 0)))))))]) := hD
  have hP9 : va_P D vwCl (modU y (aw, az, ah, ak, cI, cD)) H := hP
  have hD9 : va_D A (modU y (aw, az, ah, ak, cI, cD)) := hD
  have hK9 : va_K D vwCl [(cI, .int), (cD, .double)] s := va_K.app hKI hKD
  refine W.widen (k := 4) (n := 80) (Nat.le_of_ble_eq_true rfl) (Nat.le_of_ble_eq_true rfl) ?_
  exact W.vret hx hb hr (fun t9 ht9 hW => ⟨⟨(aw, az, ah, ak, cI, cD), rfl, trivial, by rw [ht9]; exact hP9, va_K.moved hW.alike hK9, hD9⟩, hS.F ht9⟩) hS.2.2 dX3_init_47
