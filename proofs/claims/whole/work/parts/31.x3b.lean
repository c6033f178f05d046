/-! the reference: what happens to the barrels (laid by wip/whole/prog/x3b.py) -/
theorem hset_ne {h : Nat → UInt64} {b i : Nat} (hb : b < 8) (hi : i < 8) (hn : i ≠ b) {li ag ac su : UInt64} : hset h b li ag ac su i = h i := by
  unfold hset
  rw [if_neg hn, if_neg (by omega), if_neg (by omega), if_neg (by omega)]
theorem hset_ne1 {h : Nat → UInt64} {b i c : Nat} (hb : b < 8) (hi : i < 8) (hn : i ≠ b) (hc : c = 8 ∨ c = 16 ∨ c = 24) {li ag ac su : UInt64} : hset h b li ag ac su (c + i) = h (c + i) := by
  unfold hset
  rw [if_neg (by omega), if_neg (by omega), if_neg (by omega), if_neg (by omega)]
theorem paH_of {zs : Nat → Int32} {h : Nat → UInt64} {k : Nat} (hk : k + 1 < 8) (g : FP.dcmp (paG zs h k) 0 = some .gt) : vf_upd (hset h (k + 1) (FP.dadd (h (k + 1)) (paG zs h k)) (mixv (h (k + 1)) (h (8 + (k + 1))) (paG zs h k) (h (8 + k))) (mixv (h (k + 1)) (h (16 + (k + 1))) (paG zs h k) (h (16 + k))) (mixv (h (k + 1)) (h (24 + (k + 1))) (paG zs h k) (h (24 + k)))) k (FP.dsub (h k) (paG zs h k)) = paH zs h k := by
  unfold paH
  rw [if_pos g]
  refine hset_of (by omega) vu_s ?_ ?_ ?_ (fun j h1 h2 h3 h4 => vu_n h1)
  · rw [vu_n (by omega), hset_ne1 hk (by omega) (by omega) (by decide)]
  · rw [vu_n (by omega), hset_ne1 hk (by omega) (by omega) (by decide)]
  · rw [vu_n (by omega), hset_ne1 hk (by omega) (by omega) (by decide)]
/-- the reference asks first whether there is a lack -/
def full (z : Int32) : UInt64 := FP.dmul 4606281698874543309 (FP.i2d z)
def tukk (zs : Nat → Int32) : Nat → (Nat → UInt64) → Prop
  | 0, _ => True
  | k + 1, h => (FP.dcmp (h (k + 1)) (full (zs (k + 1))) ≠ none ∧ (FP.dcmp (h (k + 1)) (full (zs (k + 1))) ≠ some .lt → FP.dcmp (paG zs h k) 0 ≠ some .gt)) ∧ tukk zs k (paH zs h k)
theorem les_min {x c : UInt64} (hx : NN x) (hc : NN c) : lesv x c = if FP.dcmp x c = some .gt then c else x := by
  unfold lesv
  obtain ⟨h1, h2, h3⟩ := cmp_nn hx hc
  by_cases g : x.toNat < c.toNat
  · rw [if_pos (h1.mpr g), if_neg (fun h9 => by have := h3.mp h9; omega)]
  · rw [if_neg (fun h9 => g (h1.mp h9))]
    by_cases g2 : c.toNat < x.toNat
    · rw [if_pos (h3.mpr g2)]
    · rw [if_neg (fun h9 => g2 (h3.mp h9))]
      exact (UInt64.toNat_inj.mp (by omega)).symm
theorem thick_les {su li be : UInt64} (hx : NN (FP.ddiv (FP.dmul su li) be)) : lesv (FP.ddiv (FP.dmul su li) be) 4634626229029306368 = thick su li be := by
  unfold thick
  exact les_min hx (by unfold NN; decide +kernel)
theorem sour_les {ac : UInt64} (hx : NN (FP.dadd ac 4591870180066957722)) : lesv (FP.dadd ac 4591870180066957722) 4622945017495814144 = if FP.dcmp (FP.dadd ac 4591870180066957722) 4622945017495814144 = some .gt then 4622945017495814144 else FP.dadd ac 4591870180066957722 := les_min hx (by unfold NN; decide +kernel)
/-- no NaN and nothing negative in a year -/
def yearNN (w : Int32) (li ac su dr : UInt64) : Prop := NN (FP.ddiv (FP.dmul su li) (FP.dsub li (losv w li dr))) ∧ NN (FP.dadd ac 4591870180066957722)
def agNN (wd : Nat → Int32) (dr : UInt64) (h : Nat → UInt64) (n : Nat) : Prop := ∀ k, k < n → FP.dcmp (agH wd dr h k k) 0 = some .gt → yearNN (wd k) (agH wd dr h k k) (agH wd dr h k (16 + k)) (agH wd dr h k (24 + k)) dr
theorem encO_neg {o : Option Nat} (h : ∀ b, o = some b → b < 8) : encO o < 0 ↔ o = none := by
  cases o with
  | none => exact ⟨fun _ => rfl, fun _ => by decide⟩
  | some b => exact ⟨fun e => absurd e (nI_pos (by have := h b rfl; omega)), fun e => nomatch e⟩
theorem elO_s {h : Nat → UInt64} {i : Nat} (h1 : FP.dcmp (h i) 0 = some .gt) (h2 : ∀ b, elO h i = some b → FP.dcmp (h (8 + i)) (h (8 + b)) ≠ some .lt) : elO h (i + 1) = some i := by
  show (if elt h i (elO h i) = true then some i else elO h i) = some i
  refine if_pos ?_
  unfold elt
  rw [decide_eq_true h1, Bool.true_and]
  cases ho : elO h i with
  | none => rfl
  | some b => exact decide_eq_true (h2 b ho)
theorem elO_k {h : Nat → UInt64} {i b : Nat} (ho : elO h i = some b) (h2 : FP.dcmp (h (8 + i)) (h (8 + b)) = some .lt) : elO h (i + 1) = elO h i := by
  show (if elt h i (elO h i) = true then some i else elO h i) = elO h i
  refine if_neg ?_
  unfold elt
  rw [ho]
  show ¬ (decide (FP.dcmp (h i) 0 = some .gt) && decide (FP.dcmp (h (8 + i)) (h (8 + b)) ≠ some .lt)) = true
  rw [show decide (FP.dcmp (h (8 + i)) (h (8 + b)) ≠ some .lt) = false from decide_eq_false (fun h5 => h5 h2), Bool.and_false]
  exact fun h => nomatch h

set_option maxHeartbeats 4000000 in
set_option maxRecDepth 100000 in
theorem metX3_pours (l : Launch) (D : va_G) (sz : Nat) (y aw az ah ak : Nat) (cI cD : ClassId) (n : Nat) (hn : n ≤ 8) (wm ys : Int32) (q : UInt64) (qf yo ri ol th : Int32) (wd zs : Nat → Int32) (h kp : Nat → UInt64) (w : UInt64) (h0 : FP.dcmp w 0 ≠ none) (hm : FP.dcmp w 0 = some .gt → mixok3 h 0 w 0 4607182418800017408 4629137466983448576) : Met l yX3_pours wsX3_pours { frames := 2, cells := 0, slots := 0, locals := 59 } (Pm D [(cI, .int), (cD, .double)] [.ref y, .double w] (modW y aw az ah ak cI cD (nI n) wm ys q qf yo ri ol th wd zs h kp) sz) (va_Qd (fun (r : UInt64) (_ : Unit) => r = poR w) (Bm D [(cI, .int), (cD, .double)] (va_A (modW y aw az ah ak cI cD (nI n) wm ys q qf yo ri ol th wd zs h kp) sz) (modW y aw az ah ak cI cD (nI n) wm ys q qf yo ri ol th wd zs (poH h w) kp)) (va_A (modW y aw az ah ak cI cD (nI n) wm ys q qf yo ri ol th wd zs h kp) sz)) 0 0 (va_A (modW y aw az ah ak cI cD (nI n) wm ys q qf yo ri ol th wd zs h kp) sz) := by
  refine Met.ofW (cc := cX3_pours) (maxL := 3) (ret := (some .double)) (by decide) rfl ?_
  intro p e s m args below meth c s₁ B hml hv
  obtain ⟨rfl, hsz, hP, hK, hD0⟩ := hv
  have hx := B.exec
  have hb := B.bytes
  have hr := B.returns
  have hts := atoms_spec (ws := wsX3_pours) B.pre
  have hown : s.vm.findClass RX3 = some m.cls := findClass_of_methodNamed B.named
  have hlocks := B.notSynchronized
  subst hsz
  have hD := hD0.self (sz := s.heap.size)
  generalize hAe : va_A (modW y aw az ah ak cI cD (nI n) wm ys q qf yo ri ol th wd zs h kp) s.heap.size = A at hD ⊢
  have hA : ∀ q : Nat, s.heap.size ≤ q → A q := fun q h => by rw [← hAe]; exact Or.inr h
  refine kW_H (fun H hH => ?_)
  have hP : va_P D vwCl (modW y aw az ah ak cI cD (nI n) wm ys q qf yo ri ol th wd zs h kp) H := by rw [hH]; exact hP
  have hS : va_S A s.heap H [] := by rw [hH]; exact va_S.rf
  have hl := lv_entry ([.ref y, .double w]) (n := 3) (Nat.le_of_ble_eq_true rfl)
  rw [lg_entry_eq]
  generalize (lg_sl ([.ref y, .double w]) ++ List.replicate (3 - (lg_sl ([.ref y, .double w])).length) Slot.unset).toArray = ls at hl ⊢
  have hl : lv_has ls 3 [(0, .ref y), (1, .double w)] := hl
  refine lv_aload_n hx hb dX3_pours_0 rfl (lv_at hl 0 rfl) ?_
  refine lv_iconst (v := 0) hx hb dX3_pours_1 (by decide) ?_
  refine lv_dload_n hx hb dX3_pours_2 rfl (lv_at hl 1 rfl) ?_
  refine kd_0 hx hb dX3_pours_3 ?_
  refine kd_1 hx hb dX3_pours_4 ?_
  refine lv_ldc2d hx hb hown (hts (.constantDouble RX3 40 4629137466983448576) (by decide +kernel)) dX3_pours_5 ?_
  refine kw_v (va_runV (As := [.int 0, .double w, .double 0, .double 4607182418800017408, .double 4629137466983448576]) (rest := []) ⟨hx, hb, hml, hown, hts⟩ (metX3_gets l D H.size y aw az ah ak cI cD n (by omega) wm ys q qf yo ri ol th wd zs h kp 0 (by decide) w 0 4607182418800017408 4629137466983448576 h0 hm) (cwV 5 hts gX3_pours_X3_gets rfl rfl rfl (by decide +kernel) ⟨Nat.le_of_ble_eq_true rfl, Nat.le_of_ble_eq_true rfl⟩) (pmV 3 0 RX3 TX3 13 rfl rfl hP hK hD) rfl rfl hl.1 rfl (lv_room (Nat.le_of_ble_eq_true rfl)) dX3_pours_8 ⟨Nat.le_of_ble_eq_true rfl, Nat.le_of_ble_eq_true rfl⟩) hP hD hS hA (fun H locs hP hD hS => ?_)
  have hP : va_P D vwCl (modW y aw az ah ak cI cD (nI n) wm ys q qf yo ri ol th wd zs (geH h 0 w 0 4607182418800017408 4629137466983448576) kp) H := hP
  have hD : va_D A (modW y aw az ah ak cI cD (nI n) wm ys q qf yo ri ol th wd zs (geH h 0 w 0 4607182418800017408 4629137466983448576) kp) := hD
  refine lv_dload_n hx hb dX3_pours_11 rfl (lv_at hl 1 rfl) ?_
  refine kd_0 hx hb dX3_pours_12 ?_
  refine kd_le (tgt := 21) hx hb dX3_pours_13 dX3_pours_14 (by decide) h0 (fun c13 => ?_) (fun c13 => ?_)
  · refine kd_0 hx hb dX3_pours_21 ?_
    have hP : va_P D vwCl (modW y aw az ah ak cI cD (nI n) wm ys q qf yo ri ol th wd zs (poH h w) kp) H := by rw [show poH h w = geH h 0 w 0 4607182418800017408 4629137466983448576 from rfl]; exact hP
    have hD : va_D A (modW y aw az ah ak cI cD (nI n) wm ys q qf yo ri ol th wd zs (poH h w) kp) := by rw [show poH h w = geH h 0 w 0 4607182418800017408 4629137466983448576 from rfl]; exact hD
    exact W.dret hx hb hr (fun t ht hW => ⟨⟨_, (), rfl, by unfold poR; rw [if_neg c13], by rw [ht]; exact hP, va_K.moved hW.alike hK, hD⟩, hS.F ht⟩) hS.2.2 dX3_pours_22
  · refine lv_dload_n hx hb dX3_pours_17 rfl (lv_at hl 1 rfl) ?_
    refine lv_goto (tgt := 22) hx hb dX3_pours_18 (by decide) ?_
    have hP : va_P D vwCl (modW y aw az ah ak cI cD (nI n) wm ys q qf yo ri ol th wd zs (poH h w) kp) H := by rw [show poH h w = geH h 0 w 0 4607182418800017408 4629137466983448576 from rfl]; exact hP
    have hD : va_D A (modW y aw az ah ak cI cD (nI n) wm ys q qf yo ri ol th wd zs (poH h w) kp) := by rw [show poH h w = geH h 0 w 0 4607182418800017408 4629137466983448576 from rfl]; exact hD
    exact W.dret hx hb hr (fun t ht hW => ⟨⟨_, (), rfl, by unfold poR; rw [if_pos c13], by rw [ht]; exact hP, va_K.moved hW.alike hK, hD⟩, hS.F ht⟩) hS.2.2 dX3_pours_22

set_option maxHeartbeats 4000000 in
set_option maxRecDepth 100000 in
theorem metX3_room (l : Launch) (D : va_G) (y aw az ah ak : Nat) (cI cD : ClassId) (n : Nat) (hn : n ≤ 8) (wm ys : Int32) (q : UInt64) (qf yo ri ol th : Int32) (wd zs : Nat → Int32) (h kp : Nat → UInt64) (h0 : vf_n64 (FP.dsub (FP.i2d (zs 0)) (h 0))) : Met l yX3_room wsX3_room { frames := 0, cells := 0, slots := 0, locals := 0 } (Pr D [(cI, .int), (cD, .double)] [.ref y] (modW y aw az ah ak cI cD (nI n) wm ys q qf yo ri ol th wd zs h kp)) (vp_Sd (fun r : UInt64 => r = FP.dsub (FP.i2d (zs 0)) (h 0))) 0 0 (fun _ => False) := by
  refine Met.ofW (cc := cX3_room) (maxL := 1) (ret := (some .double)) (by decide) rfl ?_
  intro p e s m args below meth c s₁ B hml hv
  obtain ⟨rfl, hP, hK⟩ := hv
  have hx := B.exec
  have hb := B.bytes
  have hr := B.returns
  have hts := atoms_spec (ws := wsX3_room) B.pre
  have hown : s.vm.findClass RX3 = some m.cls := findClass_of_methodNamed B.named
  have hlocks := B.notSynchronized
  have hl := lv_entry ([.ref y]) (n := 1) (Nat.le_of_ble_eq_true rfl)
  rw [lg_entry_eq]
  generalize (lg_sl ([.ref y]) ++ List.replicate (1 - (lg_sl ([.ref y])).length) Slot.unset).toArray = ls at hl ⊢
  have hl : lv_has ls 1 [(0, .ref y)] := hl
  refine lv_aload_n hx hb dX3_room_0 rfl (lv_at hl 0 rfl) ?_
  refine va_get (D := D) (ci := 3) (v := .ref az) (C := RX3) (T := TX3) (N := 13) hx hb hts (by decide +kernel) hown hK hP (0) rfl rfl 1 (by decide) (hts (.fieldLink RX3 13 "VinegarLoftModel" "sizes" "[I") (by decide +kernel)) (fun _ h9 => h9) rfl dX3_room_1 ?_
  refine lv_iconst (v := 0) hx hb dX3_room_4 (by decide) ?_
  refine kx_iald hx hb hK hP 2 0 rfl rfl (j := 0) rfl (show 0 < 8 by omega) (by decide) dX3_room_5 ?_
  refine lv_i2d hx hb dX3_room_6 ?_
  refine lv_aload_n hx hb dX3_room_7 rfl (lv_at hl 0 rfl) ?_
  refine va_get (D := D) (ci := 3) (v := .ref ah) (C := RX3) (T := TX3) (N := 13) hx hb hts (by decide +kernel) hown hK hP (0) rfl rfl 2 (by decide) (hts (.fieldLink RX3 16 "VinegarLoftModel" "holds" "[D") (by decide +kernel)) (fun _ h9 => h9) rfl dX3_room_8 ?_
  refine lv_iconst (v := 0) hx hb dX3_room_11 (by decide) ?_
  refine kx_dald hx hb hK hP 3 1 rfl rfl (j := 0) rfl (show 0 < 32 by omega) (by decide) dX3_room_12 ?_
  refine lv_dsub hx hb dX3_room_13 h0 ?_
  exact W.dret hx hb hr (fun t ht hW => ⟨_, rfl, rfl, ht⟩) (fun q hq => absurd hq List.not_mem_nil) dX3_room_14

set_option maxHeartbeats 4000000 in
set_option maxRecDepth 100000 in
theorem metX3_topsUp (l : Launch) (D : va_G) (sz : Nat) (y aw az ah ak : Nat) (cI cD : ClassId) (n : Nat) (hn : n ≤ 8) (wm ys : Int32) (q : UInt64) (qf yo ri ol th : Int32) (wd zs : Nat → Int32) (h kp : Nat → UInt64) (ht : took zs (n - 1) h 0) (hu : tukk zs (n - 1) h) : Met l yX3_topsUp wsX3_topsUp { frames := 2, cells := 0, slots := 0, locals := 59 } (Pm D [(cI, .int), (cD, .double)] [.ref y] (modW y aw az ah ak cI cD (nI n) wm ys q qf yo ri ol th wd zs h kp) sz) (va_Qd (fun (r : UInt64) (_ : Unit) => r = toS zs (n - 1) h 0) (Bm D [(cI, .int), (cD, .double)] (va_A (modW y aw az ah ak cI cD (nI n) wm ys q qf yo ri ol th wd zs h kp) sz) (modW y aw az ah ak cI cD (nI n) wm ys q qf yo ri ol th wd zs (toH zs (n - 1) h) kp)) (va_A (modW y aw az ah ak cI cD (nI n) wm ys q qf yo ri ol th wd zs h kp) sz)) 0 0 (va_A (modW y aw az ah ak cI cD (nI n) wm ys q qf yo ri ol th wd zs h kp) sz) := by
  refine Met.ofW (cc := cX3_topsUp) (maxL := 8) (ret := (some .double)) (by decide) rfl ?_
  intro p e s m args below meth c s₁ B hml hv
  obtain ⟨rfl, hsz, hP, hK, hD0⟩ := hv
  have hx := B.exec
  have hb := B.bytes
  have hr := B.returns
  have hts := atoms_spec (ws := wsX3_topsUp) B.pre
  have hown : s.vm.findClass RX3 = some m.cls := findClass_of_methodNamed B.named
  have hlocks := B.notSynchronized
  subst hsz
  have hD := hD0.self (sz := s.heap.size)
  generalize hAe : va_A (modW y aw az ah ak cI cD (nI n) wm ys q qf yo ri ol th wd zs h kp) s.heap.size = A at hD ⊢
  have hA : ∀ q : Nat, s.heap.size ≤ q → A q := fun q h => by rw [← hAe]; exact Or.inr h
  refine kW_H (fun H hH => ?_)
  have hP : va_P D vwCl (modW y aw az ah ak cI cD (nI n) wm ys q qf yo ri ol th wd zs h kp) H := by rw [hH]; exact hP
  have hS : va_S A s.heap H [] := by rw [hH]; exact va_S.rf
  have hl := lv_entry ([.ref y]) (n := 8) (Nat.le_of_ble_eq_true rfl)
  rw [lg_entry_eq]
  generalize (lg_sl ([.ref y]) ++ List.replicate (8 - (lg_sl ([.ref y])).length) Slot.unset).toArray = ls at hl ⊢
  have hl : lv_has ls 8 [(0, .ref y)] := hl
  refine kd_0 hx hb dX3_topsUp_0 ?_
  refine lv_dstore_n (lv' := [(1, .double 0), (0, .ref y)]) hx hb dX3_topsUp_1 rfl hl (by decide) rfl (fun ls hl => ?_)
  refine lv_aload_n hx hb dX3_topsUp_2 rfl (lv_at hl 1 rfl) ?_
  refine va_get (D := D) (ci := 3) (v := .int (nI n)) (C := RX3) (T := TX3) (N := 13) hx hb hts (by decide +kernel) hown hK hP (0) rfl rfl 4 (by decide) (hts (.fieldLink RX3 33 "VinegarLoftModel" "many" "I") (by decide +kernel)) (fun _ h9 => h9) rfl dX3_topsUp_3 ?_
  refine lv_iconst (v := 1) hx hb dX3_topsUp_6 (by decide) ?_
  refine lv_isub hx hb dX3_topsUp_7 ?_
  refine lv_istore_n (lv' := [(3, .int ((nI n) - 1)), (1, .double 0), (0, .ref y)]) hx hb dX3_topsUp_8 rfl hl (by decide) rfl (fun ls hl => ?_)
  by_cases h0 : n = 0
  · subst h0
    have hl : lv_has ls 8 [(3, .int (-1)), (1, .double 0), (0, .ref y)] := hl
    refine lv_iload_n hx hb dX3_topsUp_9 rfl (lv_at hl 0 rfl) ?_
    refine lv_if_le (tgt := 151) hx hb dX3_topsUp_10 (by decide) (fun c10 => ?_) (fun c10 => absurd (by decide) c10)
    refine lv_dload_n hx hb dX3_topsUp_151 rfl (lv_at hl 1 rfl) ?_
    have hP : va_P D vwCl (modW y aw az ah ak cI cD (nI 0) wm ys q qf yo ri ol th wd zs (toH zs (0 - 1) h) kp) H := by rw [show toH zs (0 - 1) h = h from rfl]; exact hP
    have hD : va_D A (modW y aw az ah ak cI cD (nI 0) wm ys q qf yo ri ol th wd zs (toH zs (0 - 1) h) kp) := by rw [show toH zs (0 - 1) h = h from rfl]; exact hD
    exact W.dret hx hb hr (fun t ht hW => ⟨⟨_, (), rfl, rfl, by rw [ht]; exact hP, va_K.moved hW.alike hK, hD⟩, hS.F ht⟩) hS.2.2 dX3_topsUp_152
  have h0 : 0 < n := by omega
  rw [nI_p h0] at hl
  refine kW_dn (n - 1) (fun i H locs ls => ∃ (h' : Nat → UInt64) (s' : UInt64), toH zs i h' = toH zs (n - 1) h ∧ toS zs i h' s' = toS zs (n - 1) h 0 ∧ took zs i h' s' ∧ tukk zs i h' ∧ va_P D vwCl (modW y aw az ah ak cI cD (nI n) wm ys q qf yo ri ol th wd zs (h') kp) H ∧ va_D A (modW y aw az ah ak cI cD (nI n) wm ys q qf yo ri ol th wd zs (h') kp) ∧ va_S A s.heap H locs ∧ lv_has ls 8 [(3, .int (nI i)), (1, .double s'), (0, .ref y)]) (fun i H locs ls hi hI ih => ?_) (fun H locs ls hI => ?_) ⟨h, 0, rfl, rfl, ht, hu, hP, hD, hS, lv_sub hl [0, 1, 2] rfl⟩
  · obtain ⟨h', s', e1, e2, e3, t3, hP, hD, hS, hl⟩ := hI
    obtain ⟨⟨ok, hs, hv⟩, e3⟩ := e3
    obtain ⟨⟨t1, t2⟩, t3⟩ := t3
    obtain ⟨o1, o2, o3, o4, o5, o6⟩ := ok
    refine lv_iload_n hx hb dX3_topsUp_9 rfl (lv_at hl 0 rfl) ?_
    refine lv_if_le (tgt := 151) hx hb dX3_topsUp_10 (by decide) (fun c10 => absurd c10 (nI_nle (by omega) (by omega))) (fun c10 => ?_)
    refine lv_ldc2d hx hb hown (hts (.constantDouble RX3 46 4606281698874543309) (by decide +kernel)) dX3_topsUp_13 ?_
    refine lv_aload_n hx hb dX3_topsUp_16 rfl (lv_at hl 2 rfl) ?_
    refine va_get (D := D) (ci := 3) (v := .ref az) (C := RX3) (T := TX3) (N := 13) hx hb hts (by decide +kernel) hown hK hP (0) rfl rfl 1 (by decide) (hts (.fieldLink RX3 13 "VinegarLoftModel" "sizes" "[I") (by decide +kernel)) (fun _ h9 => h9) rfl dX3_topsUp_17 ?_
    refine lv_iload_n hx hb dX3_topsUp_20 rfl (lv_at hl 0 rfl) ?_
    refine kx_iald hx hb hK hP 2 0 rfl rfl (j := i + 1) rfl (show i + 1 < 8 by omega) (by decide) dX3_topsUp_21 ?_
    refine lv_i2d hx hb dX3_topsUp_22 ?_
    refine lv_dmul hx hb dX3_topsUp_23 o1 ?_
    refine kd_eq (show FP.dmul 4606281698874543309 (FP.i2d (zs (i + 1))) = full (zs (i + 1)) from rfl) ?_
    refine lv_dstore (lv' := [(4, .double (full (zs (i + 1)))), (3, .int (nI (i + 1))), (1, .double s'), (0, .ref y)]) hx hb dX3_topsUp_24 hl (by decide) rfl (fun ls hl => ?_)
    refine lv_aload_n hx hb dX3_topsUp_26 rfl (lv_at hl 3 rfl) ?_
    refine va_get (D := D) (ci := 3) (v := .ref ah) (C := RX3) (T := TX3) (N := 13) hx hb hts (by decide +kernel) hown hK hP (0) rfl rfl 2 (by decide) (hts (.fieldLink RX3 16 "VinegarLoftModel" "holds" "[D") (by decide +kernel)) (fun _ h9 => h9) rfl dX3_topsUp_27 ?_
    refine lv_iconst (v := 0) hx hb dX3_topsUp_30 (by decide) ?_
    refine lv_iload_n hx hb dX3_topsUp_31 rfl (lv_at hl 1 rfl) ?_
    refine lv_iadd hx hb dX3_topsUp_32 ?_
    refine kx_dald hx hb hK hP 3 1 rfl rfl (j := i + 1) (ix0 (i + 1)) (show i + 1 < 32 by omega) (by decide) dX3_topsUp_33 ?_
    refine lv_dload hx hb dX3_topsUp_34 (lv_at hl 0 rfl) ?_
    refine kd_ge (tgt := 145) hx hb dX3_topsUp_36 dX3_topsUp_37 (by decide) t1 (fun c36 => ?_) (fun c36 => ?_)
    · have gn : FP.dcmp (paG zs h' i) 0 ≠ some .gt := t2 c36
      refine lv_iinc (v := nI i) (lv' := [(3, .int (nI i)), (4, .double (full (zs (i + 1)))), (1, .double s'), (0, .ref y)]) hx hb dX3_topsUp_145 hl (k := 1) rfl (pk_m1 i) (by decide) rfl (fun ls hl => ?_)
      refine lv_goto (tgt := 9) hx hb dX3_topsUp_148 (by decide) ?_
      have e1' : toH zs i (paH zs h' i) = toH zs (n - 1) h := e1
      have e2' : toS zs i (paH zs h' i) (paS zs h' i s') = toS zs (n - 1) h 0 := e2
      rw [show paH zs h' i = h' from by unfold paH; rw [if_neg gn]] at e1' e2' e3 t3
      rw [show paS zs h' i s' = s' from by unfold paS; rw [if_neg gn]] at e2' e3
      exact ih H locs ls ⟨_, _, e1', e2', e3, t3, hP, hD, hS, lv_sub hl [0, 2, 3] rfl⟩
    · refine lv_dload hx hb dX3_topsUp_40 (lv_at hl 0 rfl) ?_
      refine lv_aload_n hx hb dX3_topsUp_42 rfl (lv_at hl 3 rfl) ?_
      refine va_get (D := D) (ci := 3) (v := .ref ah) (C := RX3) (T := TX3) (N := 13) hx hb hts (by decide +kernel) hown hK hP (0) rfl rfl 2 (by decide) (hts (.fieldLink RX3 16 "VinegarLoftModel" "holds" "[D") (by decide +kernel)) (fun _ h9 => h9) rfl dX3_topsUp_43 ?_
      refine lv_iconst (v := 0) hx hb dX3_topsUp_46 (by decide) ?_
      refine lv_iload_n hx hb dX3_topsUp_47 rfl (lv_at hl 1 rfl) ?_
      refine lv_iadd hx hb dX3_topsUp_48 ?_
      refine kx_dald hx hb hK hP 3 1 rfl rfl (j := i + 1) (ix0 (i + 1)) (show i + 1 < 32 by omega) (by decide) dX3_topsUp_49 ?_
      refine lv_dsub hx hb dX3_topsUp_50 o2 ?_
      refine lv_ldc2d hx hb hown (hts (.constantDouble RX3 48 4602678819172646912) (by decide +kernel)) dX3_topsUp_51 ?_
      refine lv_aload_n hx hb dX3_topsUp_54 rfl (lv_at hl 3 rfl) ?_
      refine va_get (D := D) (ci := 3) (v := .ref ah) (C := RX3) (T := TX3) (N := 13) hx hb hts (by decide +kernel) hown hK hP (0) rfl rfl 2 (by decide) (hts (.fieldLink RX3 16 "VinegarLoftModel" "holds" "[D") (by decide +kernel)) (fun _ h9 => h9) rfl dX3_topsUp_55 ?_
      refine lv_iconst (v := 0) hx hb dX3_topsUp_58 (by decide) ?_
      refine lv_iload_n hx hb dX3_topsUp_59 rfl (lv_at hl 1 rfl) ?_
      refine lv_iadd hx hb dX3_topsUp_60 ?_
      refine lv_iconst (v := 1) hx hb dX3_topsUp_61 (by decide) ?_
      refine lv_isub hx hb dX3_topsUp_62 ?_
      refine kx_dald hx hb hK hP 3 1 rfl rfl (j := i) (ix0s i) (show i < 32 by omega) (by decide) dX3_topsUp_63 ?_
      refine lv_dmul hx hb dX3_topsUp_64 o3 ?_
      refine kr_d (W.runS (As := [.double (FP.dsub (full (zs (i + 1))) ((h') (i + 1))), .double (FP.dmul 4602678819172646912 ((h') i))]) (rest := []) ⟨hx, hb, hml, hown, hts⟩ (metX3_lesser l D (FP.dsub (full (zs (i + 1))) ((h') (i + 1))) (FP.dmul 4602678819172646912 ((h') i)) o4) (va_cwS 2 hts gX3_topsUp_X3_lesser rfl rfl rfl (by decide +kernel) ⟨Nat.le_of_ble_eq_true rfl, Nat.le_of_ble_eq_true rfl⟩) (prS (ws := []) (tys := []) (fun k q h => by simp at h) (hK.sub [] rfl)) rfl rfl hl.1 rfl (lv_room (Nat.le_of_ble_eq_true rfl)) dX3_topsUp_65 ⟨Nat.le_of_ble_eq_true rfl, Nat.le_of_ble_eq_true rfl⟩) ?_
      refine kd_eq (show (lesv (FP.dsub (full (zs (i + 1))) ((h') (i + 1))) (FP.dmul 4602678819172646912 ((h') i))) = paG zs h' i from rfl) ?_
      refine lv_dstore (lv' := [(6, .double (paG zs h' i)), (4, .double (full (zs (i + 1)))), (3, .int (nI (i + 1))), (1, .double s'), (0, .ref y)]) hx hb dX3_topsUp_68 hl (by decide) rfl (fun ls hl => ?_)
      refine lv_dload hx hb dX3_topsUp_70 (lv_at hl 0 rfl) ?_
      refine kd_0 hx hb dX3_topsUp_72 ?_
      refine kd_le (tgt := 145) hx hb dX3_topsUp_73 dX3_topsUp_74 (by decide) o5 (fun c73 => ?_) (fun c73 => ?_)
      · have gn : FP.dcmp (paG zs h' i) 0 ≠ some .gt := c73
        refine lv_iinc (v := nI i) (lv' := [(3, .int (nI i)), (6, .double (paG zs h' i)), (4, .double (full (zs (i + 1)))), (1, .double s'), (0, .ref y)]) hx hb dX3_topsUp_145 hl (k := 2) rfl (pk_m1 i) (by decide) rfl (fun ls hl => ?_)
        refine lv_goto (tgt := 9) hx hb dX3_topsUp_148 (by decide) ?_
        have e1' : toH zs i (paH zs h' i) = toH zs (n - 1) h := e1
        have e2' : toS zs i (paH zs h' i) (paS zs h' i s') = toS zs (n - 1) h 0 := e2
        rw [show paH zs h' i = h' from by unfold paH; rw [if_neg gn]] at e1' e2' e3 t3
        rw [show paS zs h' i s' = s' from by unfold paS; rw [if_neg gn]] at e2' e3
        exact ih H locs ls ⟨_, _, e1', e2', e3, t3, hP, hD, hS, lv_sub hl [0, 3, 4] rfl⟩
      · have gy : FP.dcmp (paG zs h' i) 0 = some .gt := c73
        obtain ⟨a1, a2, a3, a4, a5⟩ := o6 gy
        refine lv_aload_n hx hb dX3_topsUp_77 rfl (lv_at hl 4 rfl) ?_
        refine lv_iload_n hx hb dX3_topsUp_78 rfl (lv_at hl 2 rfl) ?_
        refine lv_dload hx hb dX3_topsUp_79 (lv_at hl 0 rfl) ?_
        refine lv_aload_n hx hb dX3_topsUp_81 rfl (lv_at hl 4 rfl) ?_
        refine va_get (D := D) (ci := 3) (v := .ref ah) (C := RX3) (T := TX3) (N := 13) hx hb hts (by decide +kernel) hown hK hP (0) rfl rfl 2 (by decide) (hts (.fieldLink RX3 16 "VinegarLoftModel" "holds" "[D") (by decide +kernel)) (fun _ h9 => h9) rfl dX3_topsUp_82 ?_
        refine lv_bipush (v := 8) hx hb dX3_topsUp_85 (by decide) ?_
        refine lv_iload_n hx hb dX3_topsUp_87 rfl (lv_at hl 2 rfl) ?_
        refine lv_iadd hx hb dX3_topsUp_88 ?_
        refine lv_iconst (v := 1) hx hb dX3_topsUp_89 (by decide) ?_
        refine lv_isub hx hb dX3_topsUp_90 ?_
        refine kx_dald hx hb hK hP 3 1 rfl rfl (j := 8 + i) (ixs 8 i) (show 8 + i < 32 by omega) (by decide) dX3_topsUp_91 ?_
        refine lv_aload_n hx hb dX3_topsUp_92 rfl (lv_at hl 4 rfl) ?_
        refine va_get (D := D) (ci := 3) (v := .ref ah) (C := RX3) (T := TX3) (N := 13) hx hb hts (by decide +kernel) hown hK hP (0) rfl rfl 2 (by decide) (hts (.fieldLink RX3 16 "VinegarLoftModel" "holds" "[D") (by decide +kernel)) (fun _ h9 => h9) rfl dX3_topsUp_93 ?_
        refine lv_bipush (v := 16) hx hb dX3_topsUp_96 (by decide) ?_
        refine lv_iload_n hx hb dX3_topsUp_98 rfl (lv_at hl 2 rfl) ?_
        refine lv_iadd hx hb dX3_topsUp_99 ?_
        refine lv_iconst (v := 1) hx hb dX3_topsUp_100 (by decide) ?_
        refine lv_isub hx hb dX3_topsUp_101 ?_
        refine kx_dald hx hb hK hP 3 1 rfl rfl (j := 16 + i) (ixs 16 i) (show 16 + i < 32 by omega) (by decide) dX3_topsUp_102 ?_
        refine lv_aload_n hx hb dX3_topsUp_103 rfl (lv_at hl 4 rfl) ?_
        refine va_get (D := D) (ci := 3) (v := .ref ah) (C := RX3) (T := TX3) (N := 13) hx hb hts (by decide +kernel) hown hK hP (0) rfl rfl 2 (by decide) (hts (.fieldLink RX3 16 "VinegarLoftModel" "holds" "[D") (by decide +kernel)) (fun _ h9 => h9) rfl dX3_topsUp_104 ?_
        refine lv_bipush (v := 24) hx hb dX3_topsUp_107 (by decide) ?_
        refine lv_iload_n hx hb dX3_topsUp_109 rfl (lv_at hl 2 rfl) ?_
        refine lv_iadd hx hb dX3_topsUp_110 ?_
        refine lv_iconst (v := 1) hx hb dX3_topsUp_111 (by decide) ?_
        refine lv_isub hx hb dX3_topsUp_112 ?_
        refine kx_dald hx hb hK hP 3 1 rfl rfl (j := 24 + i) (ixs 24 i) (show 24 + i < 32 by omega) (by decide) dX3_topsUp_113 ?_
        refine kw_v (va_runV (As := [.int (nI (i + 1)), .double (paG zs h' i), .double ((h') (8 + i)), .double ((h') (16 + i)), .double ((h') (24 + i))]) (rest := []) ⟨hx, hb, hml, hown, hts⟩ (metX3_gets l D H.size y aw az ah ak cI cD n (by omega) wm ys q qf yo ri ol th wd zs (h') kp (i + 1) (by omega) (paG zs h' i) (h' (8 + i)) (h' (16 + i)) (h' (24 + i)) o5 (fun _ => ⟨a1, a2, a3⟩)) (cwV 5 hts gX3_topsUp_X3_gets rfl rfl rfl (by decide +kernel) ⟨Nat.le_of_ble_eq_true rfl, Nat.le_of_ble_eq_true rfl⟩) (pmV 3 0 RX3 TX3 13 rfl rfl hP hK hD) rfl rfl hl.1 rfl (lv_room (Nat.le_of_ble_eq_true rfl)) dX3_topsUp_114 ⟨Nat.le_of_ble_eq_true rfl, Nat.le_of_ble_eq_true rfl⟩) hP hD hS hA (fun H locs hP hD hS => ?_)
        have hP : va_P D vwCl (modW y aw az ah ak cI cD (nI n) wm ys q qf yo ri ol th wd zs (geH h' (i + 1) (paG zs h' i) (h' (8 + i)) (h' (16 + i)) (h' (24 + i))) kp) H := hP
        have hD : va_D A (modW y aw az ah ak cI cD (nI n) wm ys q qf yo ri ol th wd zs (geH h' (i + 1) (paG zs h' i) (h' (8 + i)) (h' (16 + i)) (h' (24 + i))) kp) := hD
        rw [show geH h' (i + 1) (paG zs h' i) (h' (8 + i)) (h' (16 + i)) (h' (24 + i)) = hset h' (i + 1) (FP.dadd (h' (i + 1)) (paG zs h' i)) (mixv (h' (i + 1)) (h' (8 + (i + 1))) (paG zs h' i) (h' (8 + i))) (mixv (h' (i + 1)) (h' (16 + (i + 1))) (paG zs h' i) (h' (16 + i))) (mixv (h' (i + 1)) (h' (24 + (i + 1))) (paG zs h' i) (h' (24 + i))) from by unfold geH; rw [if_pos gy]] at hP hD
        have hP : va_P D vwCl (modW y aw az ah ak cI cD (nI n) wm ys q qf yo ri ol th wd zs (hset h' (i + 1) (FP.dadd (h' (i + 1)) (paG zs h' i)) (mixv (h' (i + 1)) (h' (8 + (i + 1))) (paG zs h' i) (h' (8 + i))) (mixv (h' (i + 1)) (h' (16 + (i + 1))) (paG zs h' i) (h' (16 + i))) (mixv (h' (i + 1)) (h' (24 + (i + 1))) (paG zs h' i) (h' (24 + i)))) kp) H := hP
        have hD : va_D A (modW y aw az ah ak cI cD (nI n) wm ys q qf yo ri ol th wd zs (hset h' (i + 1) (FP.dadd (h' (i + 1)) (paG zs h' i)) (mixv (h' (i + 1)) (h' (8 + (i + 1))) (paG zs h' i) (h' (8 + i))) (mixv (h' (i + 1)) (h' (16 + (i + 1))) (paG zs h' i) (h' (16 + i))) (mixv (h' (i + 1)) (h' (24 + (i + 1))) (paG zs h' i) (h' (24 + i)))) kp) := hD
        refine lv_aload_n hx hb dX3_topsUp_117 rfl (lv_at hl 4 rfl) ?_
        refine va_get (D := D) (ci := 3) (v := .ref ah) (C := RX3) (T := TX3) (N := 13) hx hb hts (by decide +kernel) hown hK hP (0) rfl rfl 2 (by decide) (hts (.fieldLink RX3 16 "VinegarLoftModel" "holds" "[D") (by decide +kernel)) (fun _ h9 => h9) rfl dX3_topsUp_118 ?_
        refine lv_iconst (v := 0) hx hb dX3_topsUp_121 (by decide) ?_
        refine lv_iload_n hx hb dX3_topsUp_122 rfl (lv_at hl 2 rfl) ?_
        refine lv_iadd hx hb dX3_topsUp_123 ?_
        refine lv_iconst (v := 1) hx hb dX3_topsUp_124 (by decide) ?_
        refine lv_isub hx hb dX3_topsUp_125 ?_
        refine lv_aload_n hx hb dX3_topsUp_126 rfl (lv_at hl 4 rfl) ?_
        refine va_get (D := D) (ci := 3) (v := .ref ah) (C := RX3) (T := TX3) (N := 13) hx hb hts (by decide +kernel) hown hK hP (0) rfl rfl 2 (by decide) (hts (.fieldLink RX3 16 "VinegarLoftModel" "holds" "[D") (by decide +kernel)) (fun _ h9 => h9) rfl dX3_topsUp_127 ?_
        refine lv_iconst (v := 0) hx hb dX3_topsUp_130 (by decide) ?_
        refine lv_iload_n hx hb dX3_topsUp_131 rfl (lv_at hl 2 rfl) ?_
        refine lv_iadd hx hb dX3_topsUp_132 ?_
        refine lv_iconst (v := 1) hx hb dX3_topsUp_133 (by decide) ?_
        refine lv_isub hx hb dX3_topsUp_134 ?_
        refine kx_dald hx hb hK hP 3 1 rfl rfl (j := i) (ix0s i) (show i < 32 by omega) (by decide) dX3_topsUp_135 ?_
        refine kd_eq (show ((hset h' (i + 1) (FP.dadd (h' (i + 1)) (paG zs h' i)) (mixv (h' (i + 1)) (h' (8 + (i + 1))) (paG zs h' i) (h' (8 + i))) (mixv (h' (i + 1)) (h' (16 + (i + 1))) (paG zs h' i) (h' (16 + i))) (mixv (h' (i + 1)) (h' (24 + (i + 1))) (paG zs h' i) (h' (24 + i)))) i) = h' i from hset_ne (show i + 1 < 8 by omega) (show i < 8 by omega) (by omega)) ?_
        refine lv_dload hx hb dX3_topsUp_136 (lv_at hl 0 rfl) ?_
        refine lv_dsub hx hb dX3_topsUp_138 a4 ?_
        refine kx_dast hx hb hK hP hD hS 3 1 rfl rfl (j := i) (ix0s i) (show i < 32 by omega) (by decide) dX3_topsUp_139 (fun H locs hP hD hS => ?_)
        have hP : va_P D vwCl (modW y aw az ah ak cI cD (nI n) wm ys q qf yo ri ol th wd zs (vf_upd (hset h' (i + 1) (FP.dadd (h' (i + 1)) (paG zs h' i)) (mixv (h' (i + 1)) (h' (8 + (i + 1))) (paG zs h' i) (h' (8 + i))) (mixv (h' (i + 1)) (h' (16 + (i + 1))) (paG zs h' i) (h' (16 + i))) (mixv (h' (i + 1)) (h' (24 + (i + 1))) (paG zs h' i) (h' (24 + i)))) i (FP.dsub (h' i) (paG zs h' i))) kp) H := hP
        have hD : va_D A (modW y aw az ah ak cI cD (nI n) wm ys q qf yo ri ol th wd zs (vf_upd (hset h' (i + 1) (FP.dadd (h' (i + 1)) (paG zs h' i)) (mixv (h' (i + 1)) (h' (8 + (i + 1))) (paG zs h' i) (h' (8 + i))) (mixv (h' (i + 1)) (h' (16 + (i + 1))) (paG zs h' i) (h' (16 + i))) (mixv (h' (i + 1)) (h' (24 + (i + 1))) (paG zs h' i) (h' (24 + i)))) i (FP.dsub (h' i) (paG zs h' i))) kp) := hD
        rw [paH_of (show i + 1 < 8 by omega) gy] at hP hD
        have hP : va_P D vwCl (modW y aw az ah ak cI cD (nI n) wm ys q qf yo ri ol th wd zs (paH zs h' i) kp) H := hP
        have hD : va_D A (modW y aw az ah ak cI cD (nI n) wm ys q qf yo ri ol th wd zs (paH zs h' i) kp) := hD
        refine lv_dload_n hx hb dX3_topsUp_140 rfl (lv_at hl 3 rfl) ?_
        refine lv_dload hx hb dX3_topsUp_141 (lv_at hl 0 rfl) ?_
        refine lv_dadd hx hb dX3_topsUp_143 (hv gy) ?_
        refine lv_dstore_n (lv' := [(1, .double (FP.dadd (s') (paG zs h' i))), (6, .double (paG zs h' i)), (4, .double (full (zs (i + 1)))), (3, .int (nI (i + 1))), (0, .ref y)]) hx hb dX3_topsUp_144 rfl hl (by decide) rfl (fun ls hl => ?_)
        refine lv_iinc (v := nI i) (lv' := [(3, .int (nI i)), (1, .double (FP.dadd (s') (paG zs h' i))), (6, .double (paG zs h' i)), (4, .double (full (zs (i + 1)))), (0, .ref y)]) hx hb dX3_topsUp_145 hl (k := 3) rfl (pk_m1 i) (by decide) rfl (fun ls hl => ?_)
        refine lv_goto (tgt := 9) hx hb dX3_topsUp_148 (by decide) ?_
        have e1' : toH zs i (paH zs h' i) = toH zs (n - 1) h := e1
        have e2' : toS zs i (paH zs h' i) (paS zs h' i s') = toS zs (n - 1) h 0 := e2
        rw [show paS zs h' i s' = FP.dadd s' (paG zs h' i) from by unfold paS; rw [if_pos gy]] at e2' e3
        exact ih H locs ls ⟨_, _, e1', e2', e3, t3, hP, hD, hS, lv_sub hl [0, 1, 4] rfl⟩
  · obtain ⟨h', s', e1, e2, e3, t3, hP, hD, hS, hl⟩ := hI
    refine lv_iload_n hx hb dX3_topsUp_9 rfl (lv_at hl 0 rfl) ?_
    refine lv_if_le (tgt := 151) hx hb dX3_topsUp_10 (by decide) (fun c10 => ?_) (fun c10 => absurd (by decide) c10)
    refine lv_dload_n hx hb dX3_topsUp_151 rfl (lv_at hl 1 rfl) ?_
    have hP : va_P D vwCl (modW y aw az ah ak cI cD (nI n) wm ys q qf yo ri ol th wd zs (toH zs (n - 1) h) kp) H := by rw [← e1]; exact hP
    have hD : va_D A (modW y aw az ah ak cI cD (nI n) wm ys q qf yo ri ol th wd zs (toH zs (n - 1) h) kp) := by rw [← e1]; exact hD
    exact W.dret hx hb hr (fun t ht hW => ⟨⟨_, (), rfl, e2, by rw [ht]; exact hP, va_K.moved hW.alike hK, hD⟩, hS.F ht⟩) hS.2.2 dX3_topsUp_152

set_option maxHeartbeats 4000000 in
set_option maxRecDepth 100000 in
theorem metX3_share (l : Launch) (D : va_G) (w : Int32)  : Met l yX3_share wsX3_share { frames := 0, cells := 0, slots := 0, locals := 0 } (Pr D [] [.int w] ([])) (vp_Sd (fun r : UInt64 => r = shv w)) 0 0 (fun _ => False) := by
  refine Met.ofW (cc := cX3_share) (maxL := 1) (ret := (some .double)) (by decide) rfl ?_
  intro p e s m args below meth c s₁ B hml hv
  obtain ⟨rfl, hP, hK⟩ := hv
  have hx := B.exec
  have hb := B.bytes
  have hr := B.returns
  have hts := atoms_spec (ws := wsX3_share) B.pre
  have hown : s.vm.findClass RX3 = some m.cls := findClass_of_methodNamed B.named
  have hlocks := B.notSynchronized
  have hl := lv_entry ([.int w]) (n := 1) (Nat.le_of_ble_eq_true rfl)
  rw [lg_entry_eq]
  generalize (lg_sl ([.int w]) ++ List.replicate (1 - (lg_sl ([.int w])).length) Slot.unset).toArray = ls at hl ⊢
  have hl : lv_has ls 1 [(0, .int w)] := hl
  refine lv_iload_n hx hb dX3_share_0 rfl (lv_at hl 0 rfl) ?_
  refine lv_if_ne (tgt := 10) hx hb dX3_share_1 (by decide) (fun c1 => ?_) (fun c1 => ?_)
  · refine lv_iload_n hx hb dX3_share_10 rfl (lv_at hl 0 rfl) ?_
    refine lv_iconst (v := 1) hx hb dX3_share_11 (by decide) ?_
    refine lv_icmp_ne (tgt := 21) hx hb dX3_share_12 (by decide) (fun c12 => ?_) (fun c12 => ?_)
    · refine lv_iload_n hx hb dX3_share_21 rfl (lv_at hl 0 rfl) ?_
      refine lv_iconst (v := 2) hx hb dX3_share_22 (by decide) ?_
      refine lv_icmp_ne (tgt := 32) hx hb dX3_share_23 (by decide) (fun c23 => ?_) (fun c23 => ?_)
      · refine lv_ldc2d hx hb hown (hts (.constantDouble RX3 60 4582862980812216730) (by decide +kernel)) dX3_share_32 ?_
        exact W.dret hx hb hr (fun t ht hW => ⟨_, rfl, by unfold shv; rw [if_neg c1, if_neg c12, if_neg c23], ht⟩) (fun q hq => absurd hq List.not_mem_nil) dX3_share_35
      · refine lv_ldc2d hx hb hown (hts (.constantDouble RX3 58 4585204852618449388) (by decide +kernel)) dX3_share_26 ?_
        refine lv_goto (tgt := 35) hx hb dX3_share_29 (by decide) ?_
        exact W.dret hx hb hr (fun t ht hW => ⟨_, rfl, by unfold shv; rw [if_neg c1, if_neg c12, if_pos c23], ht⟩) (fun q hq => absurd hq List.not_mem_nil) dX3_share_35
    · refine lv_ldc2d hx hb hown (hts (.constantDouble RX3 56 4584304132692975288) (by decide +kernel)) dX3_share_15 ?_
      refine lv_goto (tgt := 35) hx hb dX3_share_18 (by decide) ?_
      exact W.dret hx hb hr (fun t ht hW => ⟨_, rfl, by unfold shv; rw [if_neg c1, if_pos c12], ht⟩) (fun q hq => absurd hq List.not_mem_nil) dX3_share_35
  · refine lv_ldc2d hx hb hown (hts (.constantDouble RX3 54 4581421828931458171) (by decide +kernel)) dX3_share_4 ?_
    refine lv_goto (tgt := 35) hx hb dX3_share_7 (by decide) ?_
    exact W.dret hx hb hr (fun t ht hW => ⟨_, rfl, by unfold shv; rw [if_pos c1], ht⟩) (fun q hq => absurd hq List.not_mem_nil) dX3_share_35

set_option maxHeartbeats 4000000 in
set_option maxRecDepth 100000 in
theorem metX3_draught (l : Launch) (D : va_G) (y aw az ah ak : Nat) (cI cD : ClassId) (n : Nat) (hn : n ≤ 8) (wm ys : Int32) (q : UInt64) (qf yo ri ol th : Int32) (wd zs : Nat → Int32) (h kp : Nat → UInt64) (hd : drok wm) : Met l yX3_draught wsX3_draught { frames := 0, cells := 0, slots := 0, locals := 0 } (Pr D [(cI, .int), (cD, .double)] [.ref y] (modW y aw az ah ak cI cD (nI n) wm ys q qf yo ri ol th wd zs h kp)) (vp_Sd (fun r : UInt64 => r = drv wm)) 0 0 (fun _ => False) := by
  refine Met.ofW (cc := cX3_draught) (maxL := 3) (ret := (some .double)) (by decide) rfl ?_
  intro p e s m args below meth c s₁ B hml hv
  obtain ⟨rfl, hP, hK⟩ := hv
  have hx := B.exec
  have hb := B.bytes
  have hr := B.returns
  have hts := atoms_spec (ws := wsX3_draught) B.pre
  have hown : s.vm.findClass RX3 = some m.cls := findClass_of_methodNamed B.named
  have hlocks := B.notSynchronized
  have hl := lv_entry ([.ref y]) (n := 3) (Nat.le_of_ble_eq_true rfl)
  rw [lg_entry_eq]
  generalize (lg_sl ([.ref y]) ++ List.replicate (3 - (lg_sl ([.ref y])).length) Slot.unset).toArray = ls at hl ⊢
  have hl : lv_has ls 3 [(0, .ref y)] := hl
  obtain ⟨d1, d2, d3⟩ := hd
  refine kd_1 hx hb dX3_draught_0 ?_
  refine lv_ldc2d hx hb hown (hts (.constantDouble RX3 62 4587366580439587226) (by decide +kernel)) dX3_draught_1 ?_
  refine lv_aload_n hx hb dX3_draught_4 rfl (lv_at hl 0 rfl) ?_
  refine va_get (D := D) (ci := 3) (v := .int wm) (C := RX3) (T := TX3) (N := 13) hx hb hts (by decide +kernel) hown hK hP (0) rfl rfl 5 (by decide) (hts (.fieldLink RX3 23 "VinegarLoftModel" "warmth" "I") (by decide +kernel)) (fun _ h9 => h9) rfl dX3_draught_5 ?_
  refine lv_bipush (v := 18) hx hb dX3_draught_8 (by decide) ?_
  refine lv_isub hx hb dX3_draught_10 ?_
  refine lv_i2d hx hb dX3_draught_11 ?_
  refine lv_dmul hx hb dX3_draught_12 d1 ?_
  refine lv_dadd hx hb dX3_draught_13 d2 ?_
  refine lv_dstore_n (lv' := [(1, .double (drw wm)), (0, .ref y)]) hx hb dX3_draught_14 rfl hl (by decide) rfl (fun ls hl => ?_)
  refine lv_dload_n hx hb dX3_draught_15 rfl (lv_at hl 0 rfl) ?_
  refine lv_ldc2d hx hb hown (hts (.constantDouble RX3 64 4596373779694328218) (by decide +kernel)) dX3_draught_16 ?_
  refine kd_ge (tgt := 29) hx hb dX3_draught_19 dX3_draught_20 (by decide) d3 (fun c19 => ?_) (fun c19 => ?_)
  · refine lv_dload_n hx hb dX3_draught_29 rfl (lv_at hl 0 rfl) ?_
    exact W.dret hx hb hr (fun t ht hW => ⟨_, rfl, by unfold drv; rw [if_neg c19], ht⟩) (fun q hq => absurd hq List.not_mem_nil) dX3_draught_30
  · refine lv_ldc2d hx hb hown (hts (.constantDouble RX3 64 4596373779694328218) (by decide +kernel)) dX3_draught_23 ?_
    refine lv_goto (tgt := 30) hx hb dX3_draught_26 (by decide) ?_
    exact W.dret hx hb hr (fun t ht hW => ⟨_, rfl, by unfold drv; rw [if_pos c19], ht⟩) (fun q hq => absurd hq List.not_mem_nil) dX3_draught_30

set_option maxHeartbeats 4000000 in
set_option maxRecDepth 100000 in
theorem metX3_ages (l : Launch) (D : va_G) (sz : Nat) (y aw az ah ak : Nat) (cI cD : ClassId) (n : Nat) (hn : n ≤ 8) (wm ys : Int32) (q : UInt64) (qf yo ri ol th : Int32) (wd zs : Nat → Int32) (h kp : Nat → UInt64) (b : Nat) (hb8 : b < 8) (hpos : FP.dcmp (h b) 0 = some .gt) (hd : drok wm) (hy : yearok (wd b) (h b) (h (8 + b)) (h (16 + b)) (h (24 + b)) (drv wm)) (hx9 : yearNN (wd b) (h b) (h (16 + b)) (h (24 + b)) (drv wm)) : Met l yX3_ages wsX3_ages { frames := 1, cells := 0, slots := 0, locals := 23 } (Pm D [(cI, .int), (cD, .double)] [.ref y, .int (nI b)] (modW y aw az ah ak cI cD (nI n) wm ys q qf yo ri ol th wd zs h kp) sz) (va_Qd (fun (r : UInt64) (_ : Unit) => r = losv (wd b) (h b) (drv wm)) (Bm D [(cI, .int), (cD, .double)] (va_A (modW y aw az ah ak cI cD (nI n) wm ys q qf yo ri ol th wd zs h kp) sz) (modW y aw az ah ak cI cD (nI n) wm ys q qf yo ri ol th wd zs (yrH wd (drv wm) h b) kp)) (va_A (modW y aw az ah ak cI cD (nI n) wm ys q qf yo ri ol th wd zs h kp) sz)) 0 0 (va_A (modW y aw az ah ak cI cD (nI n) wm ys q qf yo ri ol th wd zs h kp) sz) := by
  refine Met.ofW (cc := cX3_ages) (maxL := 8) (ret := (some .double)) (by decide) rfl ?_
  intro p e s m args below meth c s₁ B hml hv
  obtain ⟨rfl, hsz, hP, hK, hD0⟩ := hv
  have hx := B.exec
  have hb := B.bytes
  have hr := B.returns
  have hts := atoms_spec (ws := wsX3_ages) B.pre
  have hown : s.vm.findClass RX3 = some m.cls := findClass_of_methodNamed B.named
  have hlocks := B.notSynchronized
  subst hsz
  have hD := hD0.self (sz := s.heap.size)
  generalize hAe : va_A (modW y aw az ah ak cI cD (nI n) wm ys q qf yo ri ol th wd zs h kp) s.heap.size = A at hD ⊢
  have hA : ∀ q : Nat, s.heap.size ≤ q → A q := fun q h => by rw [← hAe]; exact Or.inr h
  refine kW_H (fun H hH => ?_)
  have hP : va_P D vwCl (modW y aw az ah ak cI cD (nI n) wm ys q qf yo ri ol th wd zs h kp) H := by rw [hH]; exact hP
  have hS : va_S A s.heap H [] := by rw [hH]; exact va_S.rf
  have hl := lv_entry ([.ref y, .int (nI b)]) (n := 8) (Nat.le_of_ble_eq_true rfl)
  rw [lg_entry_eq]
  generalize (lg_sl ([.ref y, .int (nI b)]) ++ List.replicate (8 - (lg_sl ([.ref y, .int (nI b)])).length) Slot.unset).toArray = ls at hl ⊢
  have hl : lv_has ls 8 [(0, .ref y), (1, .int (nI b))] := hl
  obtain ⟨y1, y2, y3, y4, y5, y6, y7, ⟨s1, s2, s3, s4, s5, s6⟩, y9⟩ := hy
  obtain ⟨x1, x2⟩ := hx9
  refine lv_aload_n hx hb dX3_ages_0 rfl (lv_at hl 0 rfl) ?_
  refine va_get (D := D) (ci := 3) (v := .ref ah) (C := RX3) (T := TX3) (N := 13) hx hb hts (by decide +kernel) hown hK hP (0) rfl rfl 2 (by decide) (hts (.fieldLink RX3 16 "VinegarLoftModel" "holds" "[D") (by decide +kernel)) (fun _ h9 => h9) rfl dX3_ages_1 ?_
  refine lv_iconst (v := 0) hx hb dX3_ages_4 (by decide) ?_
  refine lv_iload_n hx hb dX3_ages_5 rfl (lv_at hl 1 rfl) ?_
  refine lv_iadd hx hb dX3_ages_6 ?_
  refine kx_dald hx hb hK hP 3 1 rfl rfl (j := b) (ix0 b) (show b < 32 by omega) (by decide) dX3_ages_7 ?_
  refine lv_dstore_n (lv' := [(2, .double (h b)), (0, .ref y), (1, .int (nI b))]) hx hb dX3_ages_8 rfl hl (by decide) rfl (fun ls hl => ?_)
  refine lv_dload_n hx hb dX3_ages_9 rfl (lv_at hl 0 rfl) ?_
  refine lv_aload_n hx hb dX3_ages_10 rfl (lv_at hl 1 rfl) ?_
  refine va_get (D := D) (ci := 3) (v := .ref aw) (C := RX3) (T := TX3) (N := 13) hx hb hts (by decide +kernel) hown hK hP (0) rfl rfl 0 (by decide) (hts (.fieldLink RX3 7 "VinegarLoftModel" "wood" "[I") (by decide +kernel)) (fun _ h9 => h9) rfl dX3_ages_11 ?_
  refine lv_iload_n hx hb dX3_ages_14 rfl (lv_at hl 2 rfl) ?_
  refine kx_iald hx hb hK hP 1 0 rfl rfl (j := b) rfl (show b < 8 by omega) (by decide) dX3_ages_15 ?_
  refine kr_d (W.runS (As := [.int (wd b)]) (rest := [.double (h b)]) ⟨hx, hb, hml, hown, hts⟩ (metX3_share l D (wd b)) (va_cwS 1 hts gX3_ages_X3_share rfl rfl rfl (by decide +kernel) ⟨Nat.le_of_ble_eq_true rfl, Nat.le_of_ble_eq_true rfl⟩) (prS (ws := []) (tys := []) (fun k q h => by simp at h) (hK.sub [] rfl)) rfl rfl hl.1 rfl (lv_room (Nat.le_of_ble_eq_true rfl)) dX3_ages_16 ⟨Nat.le_of_ble_eq_true rfl, Nat.le_of_ble_eq_true rfl⟩) ?_
  refine lv_dmul hx hb dX3_ages_19 y1 ?_
  refine lv_aload_n hx hb dX3_ages_20 rfl (lv_at hl 1 rfl) ?_
  refine kr_d (W.runV (As := []) (rest := [.double (FP.dmul (h b) (shv (wd b)))]) ⟨hx, hb, hml, hown, hts⟩ (metX3_draught l D y aw az ah ak cI cD n (by omega) wm ys q qf yo ri ol th wd zs h kp hd) (cwV 0 hts gX3_ages_X3_draught rfl rfl rfl (by decide +kernel) ⟨Nat.le_of_ble_eq_true rfl, Nat.le_of_ble_eq_true rfl⟩) (prV 3 0 RX3 TX3 13 rfl rfl hP hK) rfl rfl hl.1 rfl (lv_room (Nat.le_of_ble_eq_true rfl)) dX3_ages_21 ⟨Nat.le_of_ble_eq_true rfl, Nat.le_of_ble_eq_true rfl⟩) ?_
  refine lv_dmul hx hb dX3_ages_24 y2 ?_
  refine kd_eq (show (FP.dmul (FP.dmul (h b) (shv (wd b))) (drv wm)) = losv (wd b) (h b) (drv wm) from rfl) ?_
  refine lv_dstore (lv' := [(4, .double (losv (wd b) (h b) (drv wm))), (2, .double (h b)), (0, .ref y), (1, .int (nI b))]) hx hb dX3_ages_25 hl (by decide) rfl (fun ls hl => ?_)
  refine lv_dload_n hx hb dX3_ages_27 rfl (lv_at hl 1 rfl) ?_
  refine lv_dload hx hb dX3_ages_28 (lv_at hl 0 rfl) ?_
  refine lv_dsub hx hb dX3_ages_30 y3 ?_
  refine lv_dstore (lv' := [(6, .double (FP.dsub (h b) (losv (wd b) (h b) (drv wm)))), (4, .double (losv (wd b) (h b) (drv wm))), (2, .double (h b)), (0, .ref y), (1, .int (nI b))]) hx hb dX3_ages_31 hl (by decide) rfl (fun ls hl => ?_)
  refine lv_aload_n hx hb dX3_ages_33 rfl (lv_at hl 3 rfl) ?_
  refine va_get (D := D) (ci := 3) (v := .ref ah) (C := RX3) (T := TX3) (N := 13) hx hb hts (by decide +kernel) hown hK hP (0) rfl rfl 2 (by decide) (hts (.fieldLink RX3 16 "VinegarLoftModel" "holds" "[D") (by decide +kernel)) (fun _ h9 => h9) rfl dX3_ages_34 ?_
  refine lv_iconst (v := 0) hx hb dX3_ages_37 (by decide) ?_
  refine lv_iload_n hx hb dX3_ages_38 rfl (lv_at hl 4 rfl) ?_
  refine lv_iadd hx hb dX3_ages_39 ?_
  refine lv_dload hx hb dX3_ages_40 (lv_at hl 0 rfl) ?_
  refine kx_dast hx hb hK hP hD hS 3 1 rfl rfl (j := b) (ix0 b) (show b < 32 by omega) (by decide) dX3_ages_42 (fun H locs hP hD hS => ?_)
  have hP : va_P D vwCl (modW y aw az ah ak cI cD (nI n) wm ys q qf yo ri ol th wd zs (vf_upd h b (FP.dsub (h b) (losv (wd b) (h b) (drv wm)))) kp) H := hP
  have hD : va_D A (modW y aw az ah ak cI cD (nI n) wm ys q qf yo ri ol th wd zs (vf_upd h b (FP.dsub (h b) (losv (wd b) (h b) (drv wm)))) kp) := hD
  refine lv_aload_n hx hb dX3_ages_43 rfl (lv_at hl 3 rfl) ?_
  refine va_get (D := D) (ci := 3) (v := .ref ah) (C := RX3) (T := TX3) (N := 13) hx hb hts (by decide +kernel) hown hK hP (0) rfl rfl 2 (by decide) (hts (.fieldLink RX3 16 "VinegarLoftModel" "holds" "[D") (by decide +kernel)) (fun _ h9 => h9) rfl dX3_ages_44 ?_
  refine lv_bipush (v := 24) hx hb dX3_ages_47 (by decide) ?_
  refine lv_iload_n hx hb dX3_ages_49 rfl (lv_at hl 4 rfl) ?_
  refine lv_iadd hx hb dX3_ages_50 ?_
  refine lv_aload_n hx hb dX3_ages_51 rfl (lv_at hl 3 rfl) ?_
  refine va_get (D := D) (ci := 3) (v := .ref ah) (C := RX3) (T := TX3) (N := 13) hx hb hts (by decide +kernel) hown hK hP (0) rfl rfl 2 (by decide) (hts (.fieldLink RX3 16 "VinegarLoftModel" "holds" "[D") (by decide +kernel)) (fun _ h9 => h9) rfl dX3_ages_52 ?_
  refine lv_bipush (v := 24) hx hb dX3_ages_55 (by decide) ?_
  refine lv_iload_n hx hb dX3_ages_57 rfl (lv_at hl 4 rfl) ?_
  refine lv_iadd hx hb dX3_ages_58 ?_
  refine kx_dald hx hb hK hP 3 1 rfl rfl (j := 24 + b) (ixc 24 b) (show 24 + b < 32 by omega) (by decide) dX3_ages_59 ?_
  refine kd_eq (show (vf_upd h b (FP.dsub (h b) (losv (wd b) (h b) (drv wm)))) (24 + b) = h (24 + b) from by rw [vu_n (show 24 + b ≠ b by omega)]) ?_
  refine lv_dload_n hx hb dX3_ages_60 rfl (lv_at hl 2 rfl) ?_
  refine lv_dmul hx hb dX3_ages_61 y5 ?_
  refine lv_dload hx hb dX3_ages_62 (lv_at hl 0 rfl) ?_
  refine lv_ddiv hx hb dX3_ages_64 y6 ?_
  refine lv_ldc2d hx hb hown (hts (.constantDouble RX3 74 4634626229029306368) (by decide +kernel)) dX3_ages_65 ?_
  refine kr_d (W.runS (As := [.double (FP.ddiv (FP.dmul (h (24 + b)) (h b)) (FP.dsub (h b) (losv (wd b) (h b) (drv wm)))), .double 4634626229029306368]) (rest := [.int (24 + (nI b)), .ref ah]) ⟨hx, hb, hml, hown, hts⟩ (metX3_lesser l D (FP.ddiv (FP.dmul (h (24 + b)) (h b)) (FP.dsub (h b) (losv (wd b) (h b) (drv wm)))) 4634626229029306368 y7) (va_cwS 2 hts gX3_ages_X3_lesser rfl rfl rfl (by decide +kernel) ⟨Nat.le_of_ble_eq_true rfl, Nat.le_of_ble_eq_true rfl⟩) (prS (ws := []) (tys := []) (fun k q h => by simp at h) (hK.sub [] rfl)) rfl rfl hl.1 rfl (lv_room (Nat.le_of_ble_eq_true rfl)) dX3_ages_68 ⟨Nat.le_of_ble_eq_true rfl, Nat.le_of_ble_eq_true rfl⟩) ?_
  refine kd_eq (thick_les x1 : lesv (FP.ddiv (FP.dmul (h (24 + b)) (h b)) (FP.dsub (h b) (losv (wd b) (h b) (drv wm)))) 4634626229029306368 = thick (h (24 + b)) (h b) (FP.dsub (h b) (losv (wd b) (h b) (drv wm)))) ?_
  refine kx_dast hx hb hK hP hD hS 3 1 rfl rfl (j := 24 + b) (ixc 24 b) (show 24 + b < 32 by omega) (by decide) dX3_ages_71 (fun H locs hP hD hS => ?_)
  have hP : va_P D vwCl (modW y aw az ah ak cI cD (nI n) wm ys q qf yo ri ol th wd zs (vf_upd (vf_upd h b (FP.dsub (h b) (losv (wd b) (h b) (drv wm)))) (24 + b) (thick (h (24 + b)) (h b) (FP.dsub (h b) (losv (wd b) (h b) (drv wm))))) kp) H := hP
  have hD : va_D A (modW y aw az ah ak cI cD (nI n) wm ys q qf yo ri ol th wd zs (vf_upd (vf_upd h b (FP.dsub (h b) (losv (wd b) (h b) (drv wm)))) (24 + b) (thick (h (24 + b)) (h b) (FP.dsub (h b) (losv (wd b) (h b) (drv wm))))) kp) := hD
  refine lv_aload_n hx hb dX3_ages_72 rfl (lv_at hl 3 rfl) ?_
  refine va_get (D := D) (ci := 3) (v := .ref ah) (C := RX3) (T := TX3) (N := 13) hx hb hts (by decide +kernel) hown hK hP (0) rfl rfl 2 (by decide) (hts (.fieldLink RX3 16 "VinegarLoftModel" "holds" "[D") (by decide +kernel)) (fun _ h9 => h9) rfl dX3_ages_73 ?_
  refine lv_bipush (v := 24) hx hb dX3_ages_76 (by decide) ?_
  refine lv_iload_n hx hb dX3_ages_78 rfl (lv_at hl 4 rfl) ?_
  refine lv_iadd hx hb dX3_ages_79 ?_
  refine kx_dald hx hb hK hP 3 1 rfl rfl (j := 24 + b) (ixc 24 b) (show 24 + b < 32 by omega) (by decide) dX3_ages_80 ?_
  refine kd_eq (show (vf_upd (vf_upd h b (FP.dsub (h b) (losv (wd b) (h b) (drv wm)))) (24 + b) (thick (h (24 + b)) (h b) (FP.dsub (h b) (losv (wd b) (h b) (drv wm))))) (24 + b) = thick (h (24 + b)) (h b) (FP.dsub (h b) (losv (wd b) (h b) (drv wm))) from by rw [vu_s]) ?_
  refine lv_ldc2d hx hb hown (hts (.constantDouble RX3 76 4626322717216342016) (by decide +kernel)) dX3_ages_81 ?_
  refine kd_le (tgt := 151) hx hb dX3_ages_84 dX3_ages_85 (by decide) s1 (fun c84 => ?_) (fun c84 => ?_)
  · refine lv_aload_n hx hb dX3_ages_151 rfl (lv_at hl 3 rfl) ?_
    refine va_get (D := D) (ci := 3) (v := .ref ah) (C := RX3) (T := TX3) (N := 13) hx hb hts (by decide +kernel) hown hK hP (0) rfl rfl 2 (by decide) (hts (.fieldLink RX3 16 "VinegarLoftModel" "holds" "[D") (by decide +kernel)) (fun _ h9 => h9) rfl dX3_ages_152 ?_
    refine lv_bipush (v := 16) hx hb dX3_ages_155 (by decide) ?_
    refine lv_iload_n hx hb dX3_ages_157 rfl (lv_at hl 4 rfl) ?_
    refine lv_iadd hx hb dX3_ages_158 ?_
    refine lv_aload_n hx hb dX3_ages_159 rfl (lv_at hl 3 rfl) ?_
    refine va_get (D := D) (ci := 3) (v := .ref ah) (C := RX3) (T := TX3) (N := 13) hx hb hts (by decide +kernel) hown hK hP (0) rfl rfl 2 (by decide) (hts (.fieldLink RX3 16 "VinegarLoftModel" "holds" "[D") (by decide +kernel)) (fun _ h9 => h9) rfl dX3_ages_160 ?_
    refine lv_bipush (v := 16) hx hb dX3_ages_163 (by decide) ?_
    refine lv_iload_n hx hb dX3_ages_165 rfl (lv_at hl 4 rfl) ?_
    refine lv_iadd hx hb dX3_ages_166 ?_
    refine kx_dald hx hb hK hP 3 1 rfl rfl (j := 16 + b) (ixc 16 b) (show 16 + b < 32 by omega) (by decide) dX3_ages_167 ?_
    refine kd_eq (show (vf_upd (vf_upd h b (FP.dsub (h b) (losv (wd b) (h b) (drv wm)))) (24 + b) (thick (h (24 + b)) (h b) (FP.dsub (h b) (losv (wd b) (h b) (drv wm))))) (16 + b) = h (16 + b) from by rw [vu_n (show 16 + b ≠ 24 + b by omega), vu_n (show 16 + b ≠ b by omega)]) ?_
    refine lv_ldc2d hx hb hown (hts (.constantDouble RX3 84 4591870180066957722) (by decide +kernel)) dX3_ages_168 ?_
    refine lv_dadd hx hb dX3_ages_171 s5 ?_
    refine lv_ldc2d hx hb hown (hts (.constantDouble RX3 86 4622945017495814144) (by decide +kernel)) dX3_ages_172 ?_
    refine kr_d (W.runS (As := [.double (FP.dadd (h (16 + b)) 4591870180066957722), .double 4622945017495814144]) (rest := [.int (16 + (nI b)), .ref ah]) ⟨hx, hb, hml, hown, hts⟩ (metX3_lesser l D (FP.dadd (h (16 + b)) 4591870180066957722) 4622945017495814144 s6) (va_cwS 2 hts gX3_ages_X3_lesser rfl rfl rfl (by decide +kernel) ⟨Nat.le_of_ble_eq_true rfl, Nat.le_of_ble_eq_true rfl⟩) (prS (ws := []) (tys := []) (fun k q h => by simp at h) (hK.sub [] rfl)) rfl rfl hl.1 rfl (lv_room (Nat.le_of_ble_eq_true rfl)) dX3_ages_175 ⟨Nat.le_of_ble_eq_true rfl, Nat.le_of_ble_eq_true rfl⟩) ?_
    refine kd_eq (sour_les x2 : lesv (FP.dadd (h (16 + b)) 4591870180066957722) 4622945017495814144 = if FP.dcmp (FP.dadd (h (16 + b)) 4591870180066957722) 4622945017495814144 = some .gt then 4622945017495814144 else FP.dadd (h (16 + b)) 4591870180066957722) ?_
    refine kx_dast hx hb hK hP hD hS 3 1 rfl rfl (j := 16 + b) (ixc 16 b) (show 16 + b < 32 by omega) (by decide) dX3_ages_178 (fun H locs hP hD hS => ?_)
    have hP : va_P D vwCl (modW y aw az ah ak cI cD (nI n) wm ys q qf yo ri ol th wd zs (vf_upd (vf_upd (vf_upd h b (FP.dsub (h b) (losv (wd b) (h b) (drv wm)))) (24 + b) (thick (h (24 + b)) (h b) (FP.dsub (h b) (losv (wd b) (h b) (drv wm))))) (16 + b) (if FP.dcmp (FP.dadd (h (16 + b)) 4591870180066957722) 4622945017495814144 = some .gt then 4622945017495814144 else FP.dadd (h (16 + b)) 4591870180066957722)) kp) H := hP
    have hD : va_D A (modW y aw az ah ak cI cD (nI n) wm ys q qf yo ri ol th wd zs (vf_upd (vf_upd (vf_upd h b (FP.dsub (h b) (losv (wd b) (h b) (drv wm)))) (24 + b) (thick (h (24 + b)) (h b) (FP.dsub (h b) (losv (wd b) (h b) (drv wm))))) (16 + b) (if FP.dcmp (FP.dadd (h (16 + b)) 4591870180066957722) 4622945017495814144 = some .gt then 4622945017495814144 else FP.dadd (h (16 + b)) 4591870180066957722)) kp) := hD
    refine lv_aload_n hx hb dX3_ages_179 rfl (lv_at hl 3 rfl) ?_
    refine va_get (D := D) (ci := 3) (v := .ref ah) (C := RX3) (T := TX3) (N := 13) hx hb hts (by decide +kernel) hown hK hP (0) rfl rfl 2 (by decide) (hts (.fieldLink RX3 16 "VinegarLoftModel" "holds" "[D") (by decide +kernel)) (fun _ h9 => h9) rfl dX3_ages_180 ?_
    refine lv_bipush (v := 8) hx hb dX3_ages_183 (by decide) ?_
    refine lv_iload_n hx hb dX3_ages_185 rfl (lv_at hl 4 rfl) ?_
    refine lv_iadd hx hb dX3_ages_186 ?_
    refine lv_aload_n hx hb dX3_ages_187 rfl (lv_at hl 3 rfl) ?_
    refine va_get (D := D) (ci := 3) (v := .ref ah) (C := RX3) (T := TX3) (N := 13) hx hb hts (by decide +kernel) hown hK hP (0) rfl rfl 2 (by decide) (hts (.fieldLink RX3 16 "VinegarLoftModel" "holds" "[D") (by decide +kernel)) (fun _ h9 => h9) rfl dX3_ages_188 ?_
    refine lv_bipush (v := 8) hx hb dX3_ages_191 (by decide) ?_
    refine lv_iload_n hx hb dX3_ages_193 rfl (lv_at hl 4 rfl) ?_
    refine lv_iadd hx hb dX3_ages_194 ?_
    refine kx_dald hx hb hK hP 3 1 rfl rfl (j := 8 + b) (ixc 8 b) (show 8 + b < 32 by omega) (by decide) dX3_ages_195 ?_
    refine kd_eq (show (vf_upd (vf_upd (vf_upd h b (FP.dsub (h b) (losv (wd b) (h b) (drv wm)))) (24 + b) (thick (h (24 + b)) (h b) (FP.dsub (h b) (losv (wd b) (h b) (drv wm))))) (16 + b) (if FP.dcmp (FP.dadd (h (16 + b)) 4591870180066957722) 4622945017495814144 = some .gt then 4622945017495814144 else FP.dadd (h (16 + b)) 4591870180066957722)) (8 + b) = h (8 + b) from by rw [vu_n (show 8 + b ≠ 16 + b by omega), vu_n (show 8 + b ≠ 24 + b by omega), vu_n (show 8 + b ≠ b by omega)]) ?_
    refine kd_1 hx hb dX3_ages_196 ?_
    refine lv_dadd hx hb dX3_ages_197 y9 ?_
    refine kx_dast hx hb hK hP hD hS 3 1 rfl rfl (j := 8 + b) (ixc 8 b) (show 8 + b < 32 by omega) (by decide) dX3_ages_198 (fun H locs hP hD hS => ?_)
    have hP : va_P D vwCl (modW y aw az ah ak cI cD (nI n) wm ys q qf yo ri ol th wd zs (vf_upd (vf_upd (vf_upd (vf_upd h b (FP.dsub (h b) (losv (wd b) (h b) (drv wm)))) (24 + b) (thick (h (24 + b)) (h b) (FP.dsub (h b) (losv (wd b) (h b) (drv wm))))) (16 + b) (if FP.dcmp (FP.dadd (h (16 + b)) 4591870180066957722) 4622945017495814144 = some .gt then 4622945017495814144 else FP.dadd (h (16 + b)) 4591870180066957722)) (8 + b) (FP.dadd (h (8 + b)) 4607182418800017408)) kp) H := hP
    have hD : va_D A (modW y aw az ah ak cI cD (nI n) wm ys q qf yo ri ol th wd zs (vf_upd (vf_upd (vf_upd (vf_upd h b (FP.dsub (h b) (losv (wd b) (h b) (drv wm)))) (24 + b) (thick (h (24 + b)) (h b) (FP.dsub (h b) (losv (wd b) (h b) (drv wm))))) (16 + b) (if FP.dcmp (FP.dadd (h (16 + b)) 4591870180066957722) 4622945017495814144 = some .gt then 4622945017495814144 else FP.dadd (h (16 + b)) 4591870180066957722)) (8 + b) (FP.dadd (h (8 + b)) 4607182418800017408)) kp) := hD
    refine lv_dload hx hb dX3_ages_199 (lv_at hl 1 rfl) ?_
    have hP : va_P D vwCl (modW y aw az ah ak cI cD (nI n) wm ys q qf yo ri ol th wd zs (yrH wd (drv wm) h b) kp) H := by unfold yrH; rw [if_pos hpos, show soA (h (16 + b)) (thick (h (24 + b)) (h b) (FP.dsub (h b) (losv (wd b) (h b) (drv wm)))) = if FP.dcmp (FP.dadd (h (16 + b)) 4591870180066957722) 4622945017495814144 = some .gt then 4622945017495814144 else FP.dadd (h (16 + b)) 4591870180066957722 from by unfold soA; rw [if_neg (fun h9 => c84 h9.1)], show soS (h (16 + b)) (thick (h (24 + b)) (h b) (FP.dsub (h b) (losv (wd b) (h b) (drv wm)))) = thick (h (24 + b)) (h b) (FP.dsub (h b) (losv (wd b) (h b) (drv wm))) from by unfold soS; rw [if_neg (fun h9 => c84 h9.1)]]; rw [show hset h b (FP.dsub (h b) (losv (wd b) (h b) (drv wm))) (FP.dadd (h (8 + b)) 4607182418800017408) (if FP.dcmp (FP.dadd (h (16 + b)) 4591870180066957722) 4622945017495814144 = some .gt then 4622945017495814144 else FP.dadd (h (16 + b)) 4591870180066957722) (thick (h (24 + b)) (h b) (FP.dsub (h b) (losv (wd b) (h b) (drv wm)))) = vf_upd (vf_upd (vf_upd (vf_upd h b (FP.dsub (h b) (losv (wd b) (h b) (drv wm)))) (24 + b) (thick (h (24 + b)) (h b) (FP.dsub (h b) (losv (wd b) (h b) (drv wm))))) (16 + b) (if FP.dcmp (FP.dadd (h (16 + b)) 4591870180066957722) 4622945017495814144 = some .gt then 4622945017495814144 else FP.dadd (h (16 + b)) 4591870180066957722)) (8 + b) (FP.dadd (h (8 + b)) 4607182418800017408) from (hset_of (show b < 8 by omega) (by rw [vu_n (show b ≠ 8 + b by omega), vu_n (show b ≠ 16 + b by omega), vu_n (show b ≠ 24 + b by omega), vu_s]) (by rw [vu_s]) (by rw [vu_n (show 16 + b ≠ 8 + b by omega), vu_s]) (by rw [vu_n (show 24 + b ≠ 8 + b by omega), vu_n (show 24 + b ≠ 16 + b by omega), vu_s]) (fun k k1 k2 k3 k4 => by rw [vu_n k2, vu_n k3, vu_n k4, vu_n k1])).symm]; exact hP
    have hD : va_D A (modW y aw az ah ak cI cD (nI n) wm ys q qf yo ri ol th wd zs (yrH wd (drv wm) h b) kp) := by unfold yrH; rw [if_pos hpos, show soA (h (16 + b)) (thick (h (24 + b)) (h b) (FP.dsub (h b) (losv (wd b) (h b) (drv wm)))) = if FP.dcmp (FP.dadd (h (16 + b)) 4591870180066957722) 4622945017495814144 = some .gt then 4622945017495814144 else FP.dadd (h (16 + b)) 4591870180066957722 from by unfold soA; rw [if_neg (fun h9 => c84 h9.1)], show soS (h (16 + b)) (thick (h (24 + b)) (h b) (FP.dsub (h b) (losv (wd b) (h b) (drv wm)))) = thick (h (24 + b)) (h b) (FP.dsub (h b) (losv (wd b) (h b) (drv wm))) from by unfold soS; rw [if_neg (fun h9 => c84 h9.1)]]; rw [show hset h b (FP.dsub (h b) (losv (wd b) (h b) (drv wm))) (FP.dadd (h (8 + b)) 4607182418800017408) (if FP.dcmp (FP.dadd (h (16 + b)) 4591870180066957722) 4622945017495814144 = some .gt then 4622945017495814144 else FP.dadd (h (16 + b)) 4591870180066957722) (thick (h (24 + b)) (h b) (FP.dsub (h b) (losv (wd b) (h b) (drv wm)))) = vf_upd (vf_upd (vf_upd (vf_upd h b (FP.dsub (h b) (losv (wd b) (h b) (drv wm)))) (24 + b) (thick (h (24 + b)) (h b) (FP.dsub (h b) (losv (wd b) (h b) (drv wm))))) (16 + b) (if FP.dcmp (FP.dadd (h (16 + b)) 4591870180066957722) 4622945017495814144 = some .gt then 4622945017495814144 else FP.dadd (h (16 + b)) 4591870180066957722)) (8 + b) (FP.dadd (h (8 + b)) 4607182418800017408) from (hset_of (show b < 8 by omega) (by rw [vu_n (show b ≠ 8 + b by omega), vu_n (show b ≠ 16 + b by omega), vu_n (show b ≠ 24 + b by omega), vu_s]) (by rw [vu_s]) (by rw [vu_n (show 16 + b ≠ 8 + b by omega), vu_s]) (by rw [vu_n (show 24 + b ≠ 8 + b by omega), vu_n (show 24 + b ≠ 16 + b by omega), vu_s]) (fun k k1 k2 k3 k4 => by rw [vu_n k2, vu_n k3, vu_n k4, vu_n k1])).symm]; exact hD
    exact W.dret hx hb hr (fun t ht hW => ⟨⟨_, (), rfl, rfl, by rw [ht]; exact hP, va_K.moved hW.alike hK, hD⟩, hS.F ht⟩) hS.2.2 dX3_ages_201
  · refine lv_aload_n hx hb dX3_ages_88 rfl (lv_at hl 3 rfl) ?_
    refine va_get (D := D) (ci := 3) (v := .ref ah) (C := RX3) (T := TX3) (N := 13) hx hb hts (by decide +kernel) hown hK hP (0) rfl rfl 2 (by decide) (hts (.fieldLink RX3 16 "VinegarLoftModel" "holds" "[D") (by decide +kernel)) (fun _ h9 => h9) rfl dX3_ages_89 ?_
    refine lv_bipush (v := 16) hx hb dX3_ages_92 (by decide) ?_
    refine lv_iload_n hx hb dX3_ages_94 rfl (lv_at hl 4 rfl) ?_
    refine lv_iadd hx hb dX3_ages_95 ?_
    refine kx_dald hx hb hK hP 3 1 rfl rfl (j := 16 + b) (ixc 16 b) (show 16 + b < 32 by omega) (by decide) dX3_ages_96 ?_
    refine kd_eq (show (vf_upd (vf_upd h b (FP.dsub (h b) (losv (wd b) (h b) (drv wm)))) (24 + b) (thick (h (24 + b)) (h b) (FP.dsub (h b) (losv (wd b) (h b) (drv wm))))) (16 + b) = h (16 + b) from by rw [vu_n (show 16 + b ≠ 24 + b by omega), vu_n (show 16 + b ≠ b by omega)]) ?_
    refine lv_ldc2d hx hb hown (hts (.constantDouble RX3 78 4620693217682128896) (by decide +kernel)) dX3_ages_97 ?_
    refine kd_ge (tgt := 151) hx hb dX3_ages_100 dX3_ages_101 (by decide) s2 (fun c100 => ?_) (fun c100 => ?_)
    · refine lv_aload_n hx hb dX3_ages_151 rfl (lv_at hl 3 rfl) ?_
      refine va_get (D := D) (ci := 3) (v := .ref ah) (C := RX3) (T := TX3) (N := 13) hx hb hts (by decide +kernel) hown hK hP (0) rfl rfl 2 (by decide) (hts (.fieldLink RX3 16 "VinegarLoftModel" "holds" "[D") (by decide +kernel)) (fun _ h9 => h9) rfl dX3_ages_152 ?_
      refine lv_bipush (v := 16) hx hb dX3_ages_155 (by decide) ?_
      refine lv_iload_n hx hb dX3_ages_157 rfl (lv_at hl 4 rfl) ?_
      refine lv_iadd hx hb dX3_ages_158 ?_
      refine lv_aload_n hx hb dX3_ages_159 rfl (lv_at hl 3 rfl) ?_
      refine va_get (D := D) (ci := 3) (v := .ref ah) (C := RX3) (T := TX3) (N := 13) hx hb hts (by decide +kernel) hown hK hP (0) rfl rfl 2 (by decide) (hts (.fieldLink RX3 16 "VinegarLoftModel" "holds" "[D") (by decide +kernel)) (fun _ h9 => h9) rfl dX3_ages_160 ?_
      refine lv_bipush (v := 16) hx hb dX3_ages_163 (by decide) ?_
      refine lv_iload_n hx hb dX3_ages_165 rfl (lv_at hl 4 rfl) ?_
      refine lv_iadd hx hb dX3_ages_166 ?_
      refine kx_dald hx hb hK hP 3 1 rfl rfl (j := 16 + b) (ixc 16 b) (show 16 + b < 32 by omega) (by decide) dX3_ages_167 ?_
      refine kd_eq (show (vf_upd (vf_upd h b (FP.dsub (h b) (losv (wd b) (h b) (drv wm)))) (24 + b) (thick (h (24 + b)) (h b) (FP.dsub (h b) (losv (wd b) (h b) (drv wm))))) (16 + b) = h (16 + b) from by rw [vu_n (show 16 + b ≠ 24 + b by omega), vu_n (show 16 + b ≠ b by omega)]) ?_
      refine lv_ldc2d hx hb hown (hts (.constantDouble RX3 84 4591870180066957722) (by decide +kernel)) dX3_ages_168 ?_
      refine lv_dadd hx hb dX3_ages_171 s5 ?_
      refine lv_ldc2d hx hb hown (hts (.constantDouble RX3 86 4622945017495814144) (by decide +kernel)) dX3_ages_172 ?_
      refine kr_d (W.runS (As := [.double (FP.dadd (h (16 + b)) 4591870180066957722), .double 4622945017495814144]) (rest := [.int (16 + (nI b)), .ref ah]) ⟨hx, hb, hml, hown, hts⟩ (metX3_lesser l D (FP.dadd (h (16 + b)) 4591870180066957722) 4622945017495814144 s6) (va_cwS 2 hts gX3_ages_X3_lesser rfl rfl rfl (by decide +kernel) ⟨Nat.le_of_ble_eq_true rfl, Nat.le_of_ble_eq_true rfl⟩) (prS (ws := []) (tys := []) (fun k q h => by simp at h) (hK.sub [] rfl)) rfl rfl hl.1 rfl (lv_room (Nat.le_of_ble_eq_true rfl)) dX3_ages_175 ⟨Nat.le_of_ble_eq_true rfl, Nat.le_of_ble_eq_true rfl⟩) ?_
      refine kd_eq (sour_les x2 : lesv (FP.dadd (h (16 + b)) 4591870180066957722) 4622945017495814144 = if FP.dcmp (FP.dadd (h (16 + b)) 4591870180066957722) 4622945017495814144 = some .gt then 4622945017495814144 else FP.dadd (h (16 + b)) 4591870180066957722) ?_
      refine kx_dast hx hb hK hP hD hS 3 1 rfl rfl (j := 16 + b) (ixc 16 b) (show 16 + b < 32 by omega) (by decide) dX3_ages_178 (fun H locs hP hD hS => ?_)
      have hP : va_P D vwCl (modW y aw az ah ak cI cD (nI n) wm ys q qf yo ri ol th wd zs (vf_upd (vf_upd (vf_upd h b (FP.dsub (h b) (losv (wd b) (h b) (drv wm)))) (24 + b) (thick (h (24 + b)) (h b) (FP.dsub (h b) (losv (wd b) (h b) (drv wm))))) (16 + b) (if FP.dcmp (FP.dadd (h (16 + b)) 4591870180066957722) 4622945017495814144 = some .gt then 4622945017495814144 else FP.dadd (h (16 + b)) 4591870180066957722)) kp) H := hP
      have hD : va_D A (modW y aw az ah ak cI cD (nI n) wm ys q qf yo ri ol th wd zs (vf_upd (vf_upd (vf_upd h b (FP.dsub (h b) (losv (wd b) (h b) (drv wm)))) (24 + b) (thick (h (24 + b)) (h b) (FP.dsub (h b) (losv (wd b) (h b) (drv wm))))) (16 + b) (if FP.dcmp (FP.dadd (h (16 + b)) 4591870180066957722) 4622945017495814144 = some .gt then 4622945017495814144 else FP.dadd (h (16 + b)) 4591870180066957722)) kp) := hD
      refine lv_aload_n hx hb dX3_ages_179 rfl (lv_at hl 3 rfl) ?_
      refine va_get (D := D) (ci := 3) (v := .ref ah) (C := RX3) (T := TX3) (N := 13) hx hb hts (by decide +kernel) hown hK hP (0) rfl rfl 2 (by decide) (hts (.fieldLink RX3 16 "VinegarLoftModel" "holds" "[D") (by decide +kernel)) (fun _ h9 => h9) rfl dX3_ages_180 ?_
      refine lv_bipush (v := 8) hx hb dX3_ages_183 (by decide) ?_
      refine lv_iload_n hx hb dX3_ages_185 rfl (lv_at hl 4 rfl) ?_
      refine lv_iadd hx hb dX3_ages_186 ?_
      refine lv_aload_n hx hb dX3_ages_187 rfl (lv_at hl 3 rfl) ?_
      refine va_get (D := D) (ci := 3) (v := .ref ah) (C := RX3) (T := TX3) (N := 13) hx hb hts (by decide +kernel) hown hK hP (0) rfl rfl 2 (by decide) (hts (.fieldLink RX3 16 "VinegarLoftModel" "holds" "[D") (by decide +kernel)) (fun _ h9 => h9) rfl dX3_ages_188 ?_
      refine lv_bipush (v := 8) hx hb dX3_ages_191 (by decide) ?_
      refine lv_iload_n hx hb dX3_ages_193 rfl (lv_at hl 4 rfl) ?_
      refine lv_iadd hx hb dX3_ages_194 ?_
      refine kx_dald hx hb hK hP 3 1 rfl rfl (j := 8 + b) (ixc 8 b) (show 8 + b < 32 by omega) (by decide) dX3_ages_195 ?_
      refine kd_eq (show (vf_upd (vf_upd (vf_upd h b (FP.dsub (h b) (losv (wd b) (h b) (drv wm)))) (24 + b) (thick (h (24 + b)) (h b) (FP.dsub (h b) (losv (wd b) (h b) (drv wm))))) (16 + b) (if FP.dcmp (FP.dadd (h (16 + b)) 4591870180066957722) 4622945017495814144 = some .gt then 4622945017495814144 else FP.dadd (h (16 + b)) 4591870180066957722)) (8 + b) = h (8 + b) from by rw [vu_n (show 8 + b ≠ 16 + b by omega), vu_n (show 8 + b ≠ 24 + b by omega), vu_n (show 8 + b ≠ b by omega)]) ?_
      refine kd_1 hx hb dX3_ages_196 ?_
      refine lv_dadd hx hb dX3_ages_197 y9 ?_
      refine kx_dast hx hb hK hP hD hS 3 1 rfl rfl (j := 8 + b) (ixc 8 b) (show 8 + b < 32 by omega) (by decide) dX3_ages_198 (fun H locs hP hD hS => ?_)
      have hP : va_P D vwCl (modW y aw az ah ak cI cD (nI n) wm ys q qf yo ri ol th wd zs (vf_upd (vf_upd (vf_upd (vf_upd h b (FP.dsub (h b) (losv (wd b) (h b) (drv wm)))) (24 + b) (thick (h (24 + b)) (h b) (FP.dsub (h b) (losv (wd b) (h b) (drv wm))))) (16 + b) (if FP.dcmp (FP.dadd (h (16 + b)) 4591870180066957722) 4622945017495814144 = some .gt then 4622945017495814144 else FP.dadd (h (16 + b)) 4591870180066957722)) (8 + b) (FP.dadd (h (8 + b)) 4607182418800017408)) kp) H := hP
      have hD : va_D A (modW y aw az ah ak cI cD (nI n) wm ys q qf yo ri ol th wd zs (vf_upd (vf_upd (vf_upd (vf_upd h b (FP.dsub (h b) (losv (wd b) (h b) (drv wm)))) (24 + b) (thick (h (24 + b)) (h b) (FP.dsub (h b) (losv (wd b) (h b) (drv wm))))) (16 + b) (if FP.dcmp (FP.dadd (h (16 + b)) 4591870180066957722) 4622945017495814144 = some .gt then 4622945017495814144 else FP.dadd (h (16 + b)) 4591870180066957722)) (8 + b) (FP.dadd (h (8 + b)) 4607182418800017408)) kp) := hD
      refine lv_dload hx hb dX3_ages_199 (lv_at hl 1 rfl) ?_
      have hP : va_P D vwCl (modW y aw az ah ak cI cD (nI n) wm ys q qf yo ri ol th wd zs (yrH wd (drv wm) h b) kp) H := by unfold yrH; rw [if_pos hpos, show soA (h (16 + b)) (thick (h (24 + b)) (h b) (FP.dsub (h b) (losv (wd b) (h b) (drv wm)))) = if FP.dcmp (FP.dadd (h (16 + b)) 4591870180066957722) 4622945017495814144 = some .gt then 4622945017495814144 else FP.dadd (h (16 + b)) 4591870180066957722 from by unfold soA; rw [if_neg (fun h9 => c100 h9.2)], show soS (h (16 + b)) (thick (h (24 + b)) (h b) (FP.dsub (h b) (losv (wd b) (h b) (drv wm)))) = thick (h (24 + b)) (h b) (FP.dsub (h b) (losv (wd b) (h b) (drv wm))) from by unfold soS; rw [if_neg (fun h9 => c100 h9.2)]]; rw [show hset h b (FP.dsub (h b) (losv (wd b) (h b) (drv wm))) (FP.dadd (h (8 + b)) 4607182418800017408) (if FP.dcmp (FP.dadd (h (16 + b)) 4591870180066957722) 4622945017495814144 = some .gt then 4622945017495814144 else FP.dadd (h (16 + b)) 4591870180066957722) (thick (h (24 + b)) (h b) (FP.dsub (h b) (losv (wd b) (h b) (drv wm)))) = vf_upd (vf_upd (vf_upd (vf_upd h b (FP.dsub (h b) (losv (wd b) (h b) (drv wm)))) (24 + b) (thick (h (24 + b)) (h b) (FP.dsub (h b) (losv (wd b) (h b) (drv wm))))) (16 + b) (if FP.dcmp (FP.dadd (h (16 + b)) 4591870180066957722) 4622945017495814144 = some .gt then 4622945017495814144 else FP.dadd (h (16 + b)) 4591870180066957722)) (8 + b) (FP.dadd (h (8 + b)) 4607182418800017408) from (hset_of (show b < 8 by omega) (by rw [vu_n (show b ≠ 8 + b by omega), vu_n (show b ≠ 16 + b by omega), vu_n (show b ≠ 24 + b by omega), vu_s]) (by rw [vu_s]) (by rw [vu_n (show 16 + b ≠ 8 + b by omega), vu_s]) (by rw [vu_n (show 24 + b ≠ 8 + b by omega), vu_n (show 24 + b ≠ 16 + b by omega), vu_s]) (fun k k1 k2 k3 k4 => by rw [vu_n k2, vu_n k3, vu_n k4, vu_n k1])).symm]; exact hP
      have hD : va_D A (modW y aw az ah ak cI cD (nI n) wm ys q qf yo ri ol th wd zs (yrH wd (drv wm) h b) kp) := by unfold yrH; rw [if_pos hpos, show soA (h (16 + b)) (thick (h (24 + b)) (h b) (FP.dsub (h b) (losv (wd b) (h b) (drv wm)))) = if FP.dcmp (FP.dadd (h (16 + b)) 4591870180066957722) 4622945017495814144 = some .gt then 4622945017495814144 else FP.dadd (h (16 + b)) 4591870180066957722 from by unfold soA; rw [if_neg (fun h9 => c100 h9.2)], show soS (h (16 + b)) (thick (h (24 + b)) (h b) (FP.dsub (h b) (losv (wd b) (h b) (drv wm)))) = thick (h (24 + b)) (h b) (FP.dsub (h b) (losv (wd b) (h b) (drv wm))) from by unfold soS; rw [if_neg (fun h9 => c100 h9.2)]]; rw [show hset h b (FP.dsub (h b) (losv (wd b) (h b) (drv wm))) (FP.dadd (h (8 + b)) 4607182418800017408) (if FP.dcmp (FP.dadd (h (16 + b)) 4591870180066957722) 4622945017495814144 = some .gt then 4622945017495814144 else FP.dadd (h (16 + b)) 4591870180066957722) (thick (h (24 + b)) (h b) (FP.dsub (h b) (losv (wd b) (h b) (drv wm)))) = vf_upd (vf_upd (vf_upd (vf_upd h b (FP.dsub (h b) (losv (wd b) (h b) (drv wm)))) (24 + b) (thick (h (24 + b)) (h b) (FP.dsub (h b) (losv (wd b) (h b) (drv wm))))) (16 + b) (if FP.dcmp (FP.dadd (h (16 + b)) 4591870180066957722) 4622945017495814144 = some .gt then 4622945017495814144 else FP.dadd (h (16 + b)) 4591870180066957722)) (8 + b) (FP.dadd (h (8 + b)) 4607182418800017408) from (hset_of (show b < 8 by omega) (by rw [vu_n (show b ≠ 8 + b by omega), vu_n (show b ≠ 16 + b by omega), vu_n (show b ≠ 24 + b by omega), vu_s]) (by rw [vu_s]) (by rw [vu_n (show 16 + b ≠ 8 + b by omega), vu_s]) (by rw [vu_n (show 24 + b ≠ 8 + b by omega), vu_n (show 24 + b ≠ 16 + b by omega), vu_s]) (fun k k1 k2 k3 k4 => by rw [vu_n k2, vu_n k3, vu_n k4, vu_n k1])).symm]; exact hD
      exact W.dret hx hb hr (fun t ht hW => ⟨⟨_, (), rfl, rfl, by rw [ht]; exact hP, va_K.moved hW.alike hK, hD⟩, hS.F ht⟩) hS.2.2 dX3_ages_201
    · refine lv_aload_n hx hb dX3_ages_104 rfl (lv_at hl 3 rfl) ?_
      refine va_get (D := D) (ci := 3) (v := .ref ah) (C := RX3) (T := TX3) (N := 13) hx hb hts (by decide +kernel) hown hK hP (0) rfl rfl 2 (by decide) (hts (.fieldLink RX3 16 "VinegarLoftModel" "holds" "[D") (by decide +kernel)) (fun _ h9 => h9) rfl dX3_ages_105 ?_
      refine lv_bipush (v := 16) hx hb dX3_ages_108 (by decide) ?_
      refine lv_iload_n hx hb dX3_ages_110 rfl (lv_at hl 4 rfl) ?_
      refine lv_iadd hx hb dX3_ages_111 ?_
      refine lv_aload_n hx hb dX3_ages_112 rfl (lv_at hl 3 rfl) ?_
      refine va_get (D := D) (ci := 3) (v := .ref ah) (C := RX3) (T := TX3) (N := 13) hx hb hts (by decide +kernel) hown hK hP (0) rfl rfl 2 (by decide) (hts (.fieldLink RX3 16 "VinegarLoftModel" "holds" "[D") (by decide +kernel)) (fun _ h9 => h9) rfl dX3_ages_113 ?_
      refine lv_bipush (v := 16) hx hb dX3_ages_116 (by decide) ?_
      refine lv_iload_n hx hb dX3_ages_118 rfl (lv_at hl 4 rfl) ?_
      refine lv_iadd hx hb dX3_ages_119 ?_
      refine kx_dald hx hb hK hP 3 1 rfl rfl (j := 16 + b) (ixc 16 b) (show 16 + b < 32 by omega) (by decide) dX3_ages_120 ?_
      refine kd_eq (show (vf_upd (vf_upd h b (FP.dsub (h b) (losv (wd b) (h b) (drv wm)))) (24 + b) (thick (h (24 + b)) (h b) (FP.dsub (h b) (losv (wd b) (h b) (drv wm))))) (16 + b) = h (16 + b) from by rw [vu_n (show 16 + b ≠ 24 + b by omega), vu_n (show 16 + b ≠ b by omega)]) ?_
      refine lv_ldc2d hx hb hown (hts (.constantDouble RX3 80 4603579539098121011) (by decide +kernel)) dX3_ages_121 ?_
      refine lv_dadd hx hb dX3_ages_124 s3 ?_
      refine kx_dast hx hb hK hP hD hS 3 1 rfl rfl (j := 16 + b) (ixc 16 b) (show 16 + b < 32 by omega) (by decide) dX3_ages_125 (fun H locs hP hD hS => ?_)
      have hP : va_P D vwCl (modW y aw az ah ak cI cD (nI n) wm ys q qf yo ri ol th wd zs (vf_upd (vf_upd (vf_upd h b (FP.dsub (h b) (losv (wd b) (h b) (drv wm)))) (24 + b) (thick (h (24 + b)) (h b) (FP.dsub (h b) (losv (wd b) (h b) (drv wm))))) (16 + b) (FP.dadd (h (16 + b)) 4603579539098121011)) kp) H := hP
      have hD : va_D A (modW y aw az ah ak cI cD (nI n) wm ys q qf yo ri ol th wd zs (vf_upd (vf_upd (vf_upd h b (FP.dsub (h b) (losv (wd b) (h b) (drv wm)))) (24 + b) (thick (h (24 + b)) (h b) (FP.dsub (h b) (losv (wd b) (h b) (drv wm))))) (16 + b) (FP.dadd (h (16 + b)) 4603579539098121011)) kp) := hD
      refine lv_aload_n hx hb dX3_ages_126 rfl (lv_at hl 3 rfl) ?_
      refine va_get (D := D) (ci := 3) (v := .ref ah) (C := RX3) (T := TX3) (N := 13) hx hb hts (by decide +kernel) hown hK hP (0) rfl rfl 2 (by decide) (hts (.fieldLink RX3 16 "VinegarLoftModel" "holds" "[D") (by decide +kernel)) (fun _ h9 => h9) rfl dX3_ages_127 ?_
      refine lv_bipush (v := 24) hx hb dX3_ages_130 (by decide) ?_
      refine lv_iload_n hx hb dX3_ages_132 rfl (lv_at hl 4 rfl) ?_
      refine lv_iadd hx hb dX3_ages_133 ?_
      refine lv_aload_n hx hb dX3_ages_134 rfl (lv_at hl 3 rfl) ?_
      refine va_get (D := D) (ci := 3) (v := .ref ah) (C := RX3) (T := TX3) (N := 13) hx hb hts (by decide +kernel) hown hK hP (0) rfl rfl 2 (by decide) (hts (.fieldLink RX3 16 "VinegarLoftModel" "holds" "[D") (by decide +kernel)) (fun _ h9 => h9) rfl dX3_ages_135 ?_
      refine lv_bipush (v := 24) hx hb dX3_ages_138 (by decide) ?_
      refine lv_iload_n hx hb dX3_ages_140 rfl (lv_at hl 4 rfl) ?_
      refine lv_iadd hx hb dX3_ages_141 ?_
      refine kx_dald hx hb hK hP 3 1 rfl rfl (j := 24 + b) (ixc 24 b) (show 24 + b < 32 by omega) (by decide) dX3_ages_142 ?_
      refine kd_eq (show (vf_upd (vf_upd (vf_upd h b (FP.dsub (h b) (losv (wd b) (h b) (drv wm)))) (24 + b) (thick (h (24 + b)) (h b) (FP.dsub (h b) (losv (wd b) (h b) (drv wm))))) (16 + b) (FP.dadd (h (16 + b)) 4603579539098121011)) (24 + b) = thick (h (24 + b)) (h b) (FP.dsub (h b) (losv (wd b) (h b) (drv wm))) from by rw [vu_n (show 24 + b ≠ 16 + b by omega), vu_s]) ?_
      refine lv_ldc2d hx hb hown (hts (.constantDouble RX3 82 4605380978949069210) (by decide +kernel)) dX3_ages_143 ?_
      refine lv_dsub hx hb dX3_ages_146 s4 ?_
      refine kx_dast hx hb hK hP hD hS 3 1 rfl rfl (j := 24 + b) (ixc 24 b) (show 24 + b < 32 by omega) (by decide) dX3_ages_147 (fun H locs hP hD hS => ?_)
      have hP : va_P D vwCl (modW y aw az ah ak cI cD (nI n) wm ys q qf yo ri ol th wd zs (vf_upd (vf_upd (vf_upd (vf_upd h b (FP.dsub (h b) (losv (wd b) (h b) (drv wm)))) (24 + b) (thick (h (24 + b)) (h b) (FP.dsub (h b) (losv (wd b) (h b) (drv wm))))) (16 + b) (FP.dadd (h (16 + b)) 4603579539098121011)) (24 + b) (FP.dsub (thick (h (24 + b)) (h b) (FP.dsub (h b) (losv (wd b) (h b) (drv wm)))) 4605380978949069210)) kp) H := hP
      have hD : va_D A (modW y aw az ah ak cI cD (nI n) wm ys q qf yo ri ol th wd zs (vf_upd (vf_upd (vf_upd (vf_upd h b (FP.dsub (h b) (losv (wd b) (h b) (drv wm)))) (24 + b) (thick (h (24 + b)) (h b) (FP.dsub (h b) (losv (wd b) (h b) (drv wm))))) (16 + b) (FP.dadd (h (16 + b)) 4603579539098121011)) (24 + b) (FP.dsub (thick (h (24 + b)) (h b) (FP.dsub (h b) (losv (wd b) (h b) (drv wm)))) 4605380978949069210)) kp) := hD
      refine lv_goto (tgt := 179) hx hb dX3_ages_148 (by decide) ?_
      refine lv_aload_n hx hb dX3_ages_179 rfl (lv_at hl 3 rfl) ?_
      refine va_get (D := D) (ci := 3) (v := .ref ah) (C := RX3) (T := TX3) (N := 13) hx hb hts (by decide +kernel) hown hK hP (0) rfl rfl 2 (by decide) (hts (.fieldLink RX3 16 "VinegarLoftModel" "holds" "[D") (by decide +kernel)) (fun _ h9 => h9) rfl dX3_ages_180 ?_
      refine lv_bipush (v := 8) hx hb dX3_ages_183 (by decide) ?_
      refine lv_iload_n hx hb dX3_ages_185 rfl (lv_at hl 4 rfl) ?_
      refine lv_iadd hx hb dX3_ages_186 ?_
      refine lv_aload_n hx hb dX3_ages_187 rfl (lv_at hl 3 rfl) ?_
      refine va_get (D := D) (ci := 3) (v := .ref ah) (C := RX3) (T := TX3) (N := 13) hx hb hts (by decide +kernel) hown hK hP (0) rfl rfl 2 (by decide) (hts (.fieldLink RX3 16 "VinegarLoftModel" "holds" "[D") (by decide +kernel)) (fun _ h9 => h9) rfl dX3_ages_188 ?_
      refine lv_bipush (v := 8) hx hb dX3_ages_191 (by decide) ?_
      refine lv_iload_n hx hb dX3_ages_193 rfl (lv_at hl 4 rfl) ?_
      refine lv_iadd hx hb dX3_ages_194 ?_
      refine kx_dald hx hb hK hP 3 1 rfl rfl (j := 8 + b) (ixc 8 b) (show 8 + b < 32 by omega) (by decide) dX3_ages_195 ?_
      refine kd_eq (show (vf_upd (vf_upd (vf_upd (vf_upd h b (FP.dsub (h b) (losv (wd b) (h b) (drv wm)))) (24 + b) (thick (h (24 + b)) (h b) (FP.dsub (h b) (losv (wd b) (h b) (drv wm))))) (16 + b) (FP.dadd (h (16 + b)) 4603579539098121011)) (24 + b) (FP.dsub (thick (h (24 + b)) (h b) (FP.dsub (h b) (losv (wd b) (h b) (drv wm)))) 4605380978949069210)) (8 + b) = h (8 + b) from by rw [vu_n (show 8 + b ≠ 24 + b by omega), vu_n (show 8 + b ≠ 16 + b by omega), vu_n (show 8 + b ≠ 24 + b by omega), vu_n (show 8 + b ≠ b by omega)]) ?_
      refine kd_1 hx hb dX3_ages_196 ?_
      refine lv_dadd hx hb dX3_ages_197 y9 ?_
      refine kx_dast hx hb hK hP hD hS 3 1 rfl rfl (j := 8 + b) (ixc 8 b) (show 8 + b < 32 by omega) (by decide) dX3_ages_198 (fun H locs hP hD hS => ?_)
      have hP : va_P D vwCl (modW y aw az ah ak cI cD (nI n) wm ys q qf yo ri ol th wd zs (vf_upd (vf_upd (vf_upd (vf_upd (vf_upd h b (FP.dsub (h b) (losv (wd b) (h b) (drv wm)))) (24 + b) (thick (h (24 + b)) (h b) (FP.dsub (h b) (losv (wd b) (h b) (drv wm))))) (16 + b) (FP.dadd (h (16 + b)) 4603579539098121011)) (24 + b) (FP.dsub (thick (h (24 + b)) (h b) (FP.dsub (h b) (losv (wd b) (h b) (drv wm)))) 4605380978949069210)) (8 + b) (FP.dadd (h (8 + b)) 4607182418800017408)) kp) H := hP
      have hD : va_D A (modW y aw az ah ak cI cD (nI n) wm ys q qf yo ri ol th wd zs (vf_upd (vf_upd (vf_upd (vf_upd (vf_upd h b (FP.dsub (h b) (losv (wd b) (h b) (drv wm)))) (24 + b) (thick (h (24 + b)) (h b) (FP.dsub (h b) (losv (wd b) (h b) (drv wm))))) (16 + b) (FP.dadd (h (16 + b)) 4603579539098121011)) (24 + b) (FP.dsub (thick (h (24 + b)) (h b) (FP.dsub (h b) (losv (wd b) (h b) (drv wm)))) 4605380978949069210)) (8 + b) (FP.dadd (h (8 + b)) 4607182418800017408)) kp) := hD
      refine lv_dload hx hb dX3_ages_199 (lv_at hl 1 rfl) ?_
      have hP : va_P D vwCl (modW y aw az ah ak cI cD (nI n) wm ys q qf yo ri ol th wd zs (yrH wd (drv wm) h b) kp) H := by unfold yrH; rw [if_pos hpos, show soA (h (16 + b)) (thick (h (24 + b)) (h b) (FP.dsub (h b) (losv (wd b) (h b) (drv wm)))) = FP.dadd (h (16 + b)) 4603579539098121011 from by unfold soA; rw [if_pos ⟨c84, c100⟩], show soS (h (16 + b)) (thick (h (24 + b)) (h b) (FP.dsub (h b) (losv (wd b) (h b) (drv wm)))) = FP.dsub (thick (h (24 + b)) (h b) (FP.dsub (h b) (losv (wd b) (h b) (drv wm)))) 4605380978949069210 from by unfold soS; rw [if_pos ⟨c84, c100⟩]]; rw [show hset h b (FP.dsub (h b) (losv (wd b) (h b) (drv wm))) (FP.dadd (h (8 + b)) 4607182418800017408) (FP.dadd (h (16 + b)) 4603579539098121011) (FP.dsub (thick (h (24 + b)) (h b) (FP.dsub (h b) (losv (wd b) (h b) (drv wm)))) 4605380978949069210) = vf_upd (vf_upd (vf_upd (vf_upd (vf_upd h b (FP.dsub (h b) (losv (wd b) (h b) (drv wm)))) (24 + b) (thick (h (24 + b)) (h b) (FP.dsub (h b) (losv (wd b) (h b) (drv wm))))) (16 + b) (FP.dadd (h (16 + b)) 4603579539098121011)) (24 + b) (FP.dsub (thick (h (24 + b)) (h b) (FP.dsub (h b) (losv (wd b) (h b) (drv wm)))) 4605380978949069210)) (8 + b) (FP.dadd (h (8 + b)) 4607182418800017408) from (hset_of (show b < 8 by omega) (by rw [vu_n (show b ≠ 8 + b by omega), vu_n (show b ≠ 24 + b by omega), vu_n (show b ≠ 16 + b by omega), vu_n (show b ≠ 24 + b by omega), vu_s]) (by rw [vu_s]) (by rw [vu_n (show 16 + b ≠ 8 + b by omega), vu_n (show 16 + b ≠ 24 + b by omega), vu_s]) (by rw [vu_n (show 24 + b ≠ 8 + b by omega), vu_s]) (fun k k1 k2 k3 k4 => by rw [vu_n k2, vu_n k4, vu_n k3, vu_n k4, vu_n k1])).symm]; exact hP
      have hD : va_D A (modW y aw az ah ak cI cD (nI n) wm ys q qf yo ri ol th wd zs (yrH wd (drv wm) h b) kp) := by unfold yrH; rw [if_pos hpos, show soA (h (16 + b)) (thick (h (24 + b)) (h b) (FP.dsub (h b) (losv (wd b) (h b) (drv wm)))) = FP.dadd (h (16 + b)) 4603579539098121011 from by unfold soA; rw [if_pos ⟨c84, c100⟩], show soS (h (16 + b)) (thick (h (24 + b)) (h b) (FP.dsub (h b) (losv (wd b) (h b) (drv wm)))) = FP.dsub (thick (h (24 + b)) (h b) (FP.dsub (h b) (losv (wd b) (h b) (drv wm)))) 4605380978949069210 from by unfold soS; rw [if_pos ⟨c84, c100⟩]]; rw [show hset h b (FP.dsub (h b) (losv (wd b) (h b) (drv wm))) (FP.dadd (h (8 + b)) 4607182418800017408) (FP.dadd (h (16 + b)) 4603579539098121011) (FP.dsub (thick (h (24 + b)) (h b) (FP.dsub (h b) (losv (wd b) (h b) (drv wm)))) 4605380978949069210) = vf_upd (vf_upd (vf_upd (vf_upd (vf_upd h b (FP.dsub (h b) (losv (wd b) (h b) (drv wm)))) (24 + b) (thick (h (24 + b)) (h b) (FP.dsub (h b) (losv (wd b) (h b) (drv wm))))) (16 + b) (FP.dadd (h (16 + b)) 4603579539098121011)) (24 + b) (FP.dsub (thick (h (24 + b)) (h b) (FP.dsub (h b) (losv (wd b) (h b) (drv wm)))) 4605380978949069210)) (8 + b) (FP.dadd (h (8 + b)) 4607182418800017408) from (hset_of (show b < 8 by omega) (by rw [vu_n (show b ≠ 8 + b by omega), vu_n (show b ≠ 24 + b by omega), vu_n (show b ≠ 16 + b by omega), vu_n (show b ≠ 24 + b by omega), vu_s]) (by rw [vu_s]) (by rw [vu_n (show 16 + b ≠ 8 + b by omega), vu_n (show 16 + b ≠ 24 + b by omega), vu_s]) (by rw [vu_n (show 24 + b ≠ 8 + b by omega), vu_s]) (fun k k1 k2 k3 k4 => by rw [vu_n k2, vu_n k4, vu_n k3, vu_n k4, vu_n k1])).symm]; exact hD
      exact W.dret hx hb hr (fun t ht hW => ⟨⟨_, (), rfl, rfl, by rw [ht]; exact hP, va_K.moved hW.alike hK, hD⟩, hS.F ht⟩) hS.2.2 dX3_ages_201

