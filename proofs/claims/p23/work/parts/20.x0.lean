/-! VinegarLoft$Barrel: its methods (laid by wip/p23/prog/x0.py) -/
theorem by_contra_sw {k : Int32} (e0 : ¬ k = 0) (e1 : ¬ k = 1) (e2 : ¬ k = 2) : k.toInt < 0 ∨ 2 < k.toInt := by
  refine Classical.byContradiction fun h => ?_
  have h1 : k.toInt = 0 ∨ k.toInt = 1 ∨ k.toInt = 2 := by omega
  rcases h1 with h1 | h1 | h1
  · exact e0 (Int32.toInt.inj (by rw [h1]; rfl))
  · exact e1 (Int32.toInt.inj (by rw [h1]; rfl))
  · exact e2 (Int32.toInt.inj (by rw [h1]; rfl))
set_option maxHeartbeats 4000000 in
set_option maxRecDepth 100000 in
/-- Barrel(): nothing changes -/
theorem metX0_init (l : Launch) (D : va_G) (sz : Nat) (a : Nat) (w z : Int32) (li ag ac su : UInt64)  : Met l yX0_init wsX0_init { frames := 1, cells := 0, slots := 0, locals := 12 } (Pm D [] [.ref a] ([(a, .inr (0, [.int w, .int z, .double li, .double ag, .double ac, .double su]))]) sz) (va_Qv (fun (_ : Unit) => True) (Bm D [] (va_A ([(a, .inr (0, [.int w, .int z, .double li, .double ag, .double ac, .double su]))]) sz) ([(a, .inr (0, [.int w, .int z, .double li, .double ag, .double ac, .double su]))])) (va_A ([(a, .inr (0, [.int w, .int z, .double li, .double ag, .double ac, .double su]))]) sz)) 0 0 (va_A ([(a, .inr (0, [.int w, .int z, .double li, .double ag, .double ac, .double su]))]) sz) := by
  refine Met.ofW (cc := cX0_init) (maxL := 1) (ret := none) (by decide) rfl ?_
  intro p e s m args below meth c s₁ B hml hv
  obtain ⟨rfl, hsz, hP, hK, hD0⟩ := hv
  have hx := B.exec
  have hb := B.bytes
  have hr := B.returns
  have hts := atoms_spec (ws := wsX0_init) B.pre
  have hown : s.vm.findClass RX0 = some m.cls := findClass_of_methodNamed B.named
  have hlocks := B.notSynchronized
  have hin : meth.name = "<init>" := (name_of_methodNamed B.named B.method).1
  subst hsz
  have hD := hD0.self (sz := s.heap.size)
  generalize hAe : va_A ([(a, .inr (0, [.int w, .int z, .double li, .double ag, .double ac, .double su]))]) s.heap.size = A at hD ⊢
  have hA : ∀ q : Nat, s.heap.size ≤ q → A q := fun q h => by rw [← hAe]; exact Or.inr h
  refine kW_H (fun H hH => ?_)
  have hP : va_P D vwCl ([(a, .inr (0, [.int w, .int z, .double li, .double ag, .double ac, .double su]))]) H := by rw [hH]; exact hP
  have hS : va_S A s.heap H [] := by rw [hH]; exact va_S.rf
  have hl := lv_entry ([.ref a]) (n := 1) (Nat.le_of_ble_eq_true rfl)
  rw [lg_entry_eq]
  generalize (lg_sl ([.ref a]) ++ List.replicate (1 - (lg_sl ([.ref a])).length) Slot.unset).toArray = ls at hl ⊢
  have hl : lv_has ls 1 [(0, .ref a)] := hl
  refine lv_aload_n hx hb dX0_init_0 rfl (lv_at hl 0 rfl) ?_
  refine W.objInit hx hb hown (hts (.methodLink RX0 1 objectInit) (by decide +kernel)) (hts (.instanceMethod objectInit) (by decide +kernel)) (hts (.code objectInit ⟨#[0xb1]⟩ 1 none) (by decide +kernel)) rfl (by rw [hml]; exact hl.1) rfl dX0_init_1 (Nat.le_of_ble_eq_true rfl) (Nat.le_of_ble_eq_true rfl) ?_
  refine W.eq (g2 := F0 m 4 ls []) rfl ?_
  exact W.vret hx hb hr (fun t ht hW => ⟨⟨(), rfl, trivial, by rw [ht]; exact hP, va_K.moved hW.alike hK, hD⟩, hS.F ht⟩) hS.2.2 dX0_init_4
set_option maxHeartbeats 4000000 in
set_option maxRecDepth 100000 in
/-- isEmpty() -/
theorem metX0_isEmpty (l : Launch) (D : va_G) (a : Nat) (w z : Int32) (li ag ac su : UInt64) (h0 : FP.dcmp li 0 ≠ none) : Met l yX0_isEmpty wsX0_isEmpty { frames := 0, cells := 0, slots := 0, locals := 0 } (Pr D [] [.ref a] ([(a, .inr (0, [.int w, .int z, .double li, .double ag, .double ac, .double su]))])) (vp_Si (fun r : Int32 => r = emp li)) 0 0 (fun _ => False) := by
  refine Met.ofW (cc := cX0_isEmpty) (maxL := 1) (ret := (some .boolean)) (by decide) rfl ?_
  intro p e s m args below meth c s₁ B hml hv
  obtain ⟨rfl, hP, hK⟩ := hv
  have hx := B.exec
  have hb := B.bytes
  have hr := B.returns
  have hts := atoms_spec (ws := wsX0_isEmpty) B.pre
  have hown : s.vm.findClass RX0 = some m.cls := findClass_of_methodNamed B.named
  have hlocks := B.notSynchronized
  have hl := lv_entry ([.ref a]) (n := 1) (Nat.le_of_ble_eq_true rfl)
  rw [lg_entry_eq]
  generalize (lg_sl ([.ref a]) ++ List.replicate (1 - (lg_sl ([.ref a])).length) Slot.unset).toArray = ls at hl ⊢
  have hl : lv_has ls 1 [(0, .ref a)] := hl
  refine lv_aload_n hx hb dX0_isEmpty_0 rfl (lv_at hl 0 rfl) ?_
  refine va_get (D := D) (ci := 0) (v := .double li) (C := RX0) (T := TX0) (N := 6) hx hb hts (by decide +kernel) hown hK hP (0) rfl rfl 2 (by decide) (hts (.fieldLink RX0 16 "VinegarLoft$Barrel" "litres" "D") (by decide +kernel)) (fun _ h9 => h9) rfl dX0_isEmpty_1 ?_
  refine kd_0 hx hb dX0_isEmpty_4 ?_
  refine kd_gt (tgt := 13) hx hb dX0_isEmpty_5 dX0_isEmpty_6 (by decide) h0 (fun c5 => ?_) (fun c5 => ?_)
  · refine lv_iconst (v := 0) hx hb dX0_isEmpty_13 (by decide) ?_
    exact W.zret hx hb hr (by first | rfl | decide) (fun t ht hW => ⟨_, rfl, by unfold emp; rw [if_pos c5], ht⟩) (fun q hq => absurd hq List.not_mem_nil) dX0_isEmpty_14
  · refine lv_iconst (v := 1) hx hb dX0_isEmpty_9 (by decide) ?_
    refine lv_goto (tgt := 14) hx hb dX0_isEmpty_10 (by decide) ?_
    exact W.zret hx hb hr (by first | rfl | decide) (fun t ht hW => ⟨_, rfl, by unfold emp; rw [if_neg c5], ht⟩) (fun q hq => absurd hq List.not_mem_nil) dX0_isEmpty_14
set_option maxHeartbeats 4000000 in
set_option maxRecDepth 100000 in
/-- clear(): zeros -/
theorem metX0_clear (l : Launch) (D : va_G) (sz : Nat) (a : Nat) (w z : Int32) (li ag ac su : UInt64)  : Met l yX0_clear wsX0_clear { frames := 0, cells := 0, slots := 0, locals := 0 } (Pm D [] [.ref a] ([(a, .inr (0, [.int w, .int z, .double li, .double ag, .double ac, .double su]))]) sz) (va_Qv (fun (_ : Unit) => True) (Bm D [] (va_A ([(a, .inr (0, [.int w, .int z, .double li, .double ag, .double ac, .double su]))]) sz) ([(a, .inr (0, [.int w, .int z, .double 0, .double 0, .double 0, .double 0]))])) (va_A ([(a, .inr (0, [.int w, .int z, .double li, .double ag, .double ac, .double su]))]) sz)) 0 0 (va_A ([(a, .inr (0, [.int w, .int z, .double li, .double ag, .double ac, .double su]))]) sz) := by
  refine Met.ofW (cc := cX0_clear) (maxL := 1) (ret := none) (by decide) rfl ?_
  intro p e s m args below meth c s₁ B hml hv
  obtain ⟨rfl, hsz, hP, hK, hD0⟩ := hv
  have hx := B.exec
  have hb := B.bytes
  have hr := B.returns
  have hts := atoms_spec (ws := wsX0_clear) B.pre
  have hown : s.vm.findClass RX0 = some m.cls := findClass_of_methodNamed B.named
  have hlocks := B.notSynchronized
  subst hsz
  have hD := hD0.self (sz := s.heap.size)
  generalize hAe : va_A ([(a, .inr (0, [.int w, .int z, .double li, .double ag, .double ac, .double su]))]) s.heap.size = A at hD ⊢
  have hA : ∀ q : Nat, s.heap.size ≤ q → A q := fun q h => by rw [← hAe]; exact Or.inr h
  refine kW_H (fun H hH => ?_)
  have hP : va_P D vwCl ([(a, .inr (0, [.int w, .int z, .double li, .double ag, .double ac, .double su]))]) H := by rw [hH]; exact hP
  have hS : va_S A s.heap H [] := by rw [hH]; exact va_S.rf
  have hl := lv_entry ([.ref a]) (n := 1) (Nat.le_of_ble_eq_true rfl)
  rw [lg_entry_eq]
  generalize (lg_sl ([.ref a]) ++ List.replicate (1 - (lg_sl ([.ref a])).length) Slot.unset).toArray = ls at hl ⊢
  have hl : lv_has ls 1 [(0, .ref a)] := hl
  refine lv_aload_n hx hb dX0_clear_0 rfl (lv_at hl 0 rfl) ?_
  refine kd_0 hx hb dX0_clear_1 ?_
  refine va_put (D := D) (ci := 0) (v := .double 0) (ty := .double) (C := RX0) (T := TX0) (N := 6) hx hb hts (by decide +kernel) tyX0 tyX0_ok nmX0 hown hK hP hD hS (0) rfl rfl 2 (by decide) (hts (.fieldLink RX0 16 "VinegarLoft$Barrel" "litres" "D") (by decide +kernel)) (fun _ h9 => h9) rfl (by decide +kernel) rfl rfl (Nat.le_of_ble_eq_true rfl) dX0_clear_2 (fun H locs hP hD hS => ?_)
  have hP : va_P D vwCl [(a, .inr (0, [.int w, .int z, .double 0, .double ag, .double ac, .double su]))] H := hP
  have hD : va_D A [(a, .inr (0, [.int w, .int z, .double 0, .double ag, .double ac, .double su]))] := hD
  refine lv_aload_n hx hb dX0_clear_5 rfl (lv_at hl 0 rfl) ?_
  refine kd_0 hx hb dX0_clear_6 ?_
  refine va_put (D := D) (ci := 0) (v := .double 0) (ty := .double) (C := RX0) (T := TX0) (N := 6) hx hb hts (by decide +kernel) tyX0 tyX0_ok nmX0 hown hK hP hD hS (0) rfl rfl 3 (by decide) (hts (.fieldLink RX0 20 "VinegarLoft$Barrel" "age" "D") (by decide +kernel)) (fun _ h9 => h9) rfl (by decide +kernel) rfl rfl (Nat.le_of_ble_eq_true rfl) dX0_clear_7 (fun H locs hP hD hS => ?_)
  have hP : va_P D vwCl [(a, .inr (0, [.int w, .int z, .double 0, .double 0, .double ac, .double su]))] H := hP
  have hD : va_D A [(a, .inr (0, [.int w, .int z, .double 0, .double 0, .double ac, .double su]))] := hD
  refine lv_aload_n hx hb dX0_clear_10 rfl (lv_at hl 0 rfl) ?_
  refine kd_0 hx hb dX0_clear_11 ?_
  refine va_put (D := D) (ci := 0) (v := .double 0) (ty := .double) (C := RX0) (T := TX0) (N := 6) hx hb hts (by decide +kernel) tyX0 tyX0_ok nmX0 hown hK hP hD hS (0) rfl rfl 4 (by decide) (hts (.fieldLink RX0 23 "VinegarLoft$Barrel" "acid" "D") (by decide +kernel)) (fun _ h9 => h9) rfl (by decide +kernel) rfl rfl (Nat.le_of_ble_eq_true rfl) dX0_clear_12 (fun H locs hP hD hS => ?_)
  have hP : va_P D vwCl [(a, .inr (0, [.int w, .int z, .double 0, .double 0, .double 0, .double su]))] H := hP
  have hD : va_D A [(a, .inr (0, [.int w, .int z, .double 0, .double 0, .double 0, .double su]))] := hD
  refine lv_aload_n hx hb dX0_clear_15 rfl (lv_at hl 0 rfl) ?_
  refine kd_0 hx hb dX0_clear_16 ?_
  refine va_put (D := D) (ci := 0) (v := .double 0) (ty := .double) (C := RX0) (T := TX0) (N := 6) hx hb hts (by decide +kernel) tyX0 tyX0_ok nmX0 hown hK hP hD hS (0) rfl rfl 5 (by decide) (hts (.fieldLink RX0 26 "VinegarLoft$Barrel" "sugar" "D") (by decide +kernel)) (fun _ h9 => h9) rfl (by decide +kernel) rfl rfl (Nat.le_of_ble_eq_true rfl) dX0_clear_17 (fun H locs hP hD hS => ?_)
  have hP : va_P D vwCl [(a, .inr (0, [.int w, .int z, .double 0, .double 0, .double 0, .double 0]))] H := hP
  have hD : va_D A [(a, .inr (0, [.int w, .int z, .double 0, .double 0, .double 0, .double 0]))] := hD
  exact W.vret hx hb hr (fun t ht hW => ⟨⟨(), rfl, trivial, by rw [ht]; exact hP, va_K.moved hW.alike hK, hD⟩, hS.F ht⟩) hS.2.2 dX0_clear_20
set_option maxHeartbeats 4000000 in
set_option maxRecDepth 100000 in
/-- mixed(..), where there is something -/
theorem metX0_mixed (l : Launch) (D : va_G) (v x w y : UInt64) (h : mixok v x w y) : Met l yX0_mixed wsX0_mixed { frames := 0, cells := 0, slots := 0, locals := 0 } (Pr D [] [.double v, .double x, .double w, .double y] ([])) (vp_Sd (fun r : UInt64 => r = mixv v x w y)) 0 0 (fun _ => False) := by
  refine Met.ofW (cc := cX0_mixed) (maxL := 10) (ret := (some .double)) (by decide) rfl ?_
  intro p e s m args below meth c s₁ B hml hv
  obtain ⟨rfl, hP, hK⟩ := hv
  have hx := B.exec
  have hb := B.bytes
  have hr := B.returns
  have hts := atoms_spec (ws := wsX0_mixed) B.pre
  have hown : s.vm.findClass RX0 = some m.cls := findClass_of_methodNamed B.named
  have hlocks := B.notSynchronized
  have hl := lv_entry ([.double v, .double x, .double w, .double y]) (n := 10) (Nat.le_of_ble_eq_true rfl)
  rw [lg_entry_eq]
  generalize (lg_sl ([.double v, .double x, .double w, .double y]) ++ List.replicate (10 - (lg_sl ([.double v, .double x, .double w, .double y])).length) Slot.unset).toArray = ls at hl ⊢
  have hl : lv_has ls 10 [(0, .double v), (2, .double x), (4, .double w), (6, .double y)] := hl
  obtain ⟨h1, h2, h3, h4, h5, h6⟩ := h
  refine lv_dload_n hx hb dX0_mixed_0 rfl (lv_at hl 0 rfl) ?_
  refine lv_dload hx hb dX0_mixed_1 (lv_at hl 2 rfl) ?_
  refine lv_dadd hx hb dX0_mixed_3 h1 ?_
  refine lv_dstore (lv' := [(8, .double (FP.dadd v w)), (0, .double v), (2, .double x), (4, .double w), (6, .double y)]) hx hb dX0_mixed_4 hl (by decide) rfl (fun ls hl => ?_)
  refine lv_dload hx hb dX0_mixed_6 (lv_at hl 0 rfl) ?_
  refine kd_0 hx hb dX0_mixed_8 ?_
  refine kd_le (tgt := 28) hx hb dX0_mixed_9 dX0_mixed_10 (by decide) (gt_ne h2) (fun c9 => absurd c9 (fun h9 => h9 h2)) (fun c9 => ?_)
  refine lv_dload_n hx hb dX0_mixed_13 rfl (lv_at hl 1 rfl) ?_
  refine lv_dload_n hx hb dX0_mixed_14 rfl (lv_at hl 2 rfl) ?_
  refine lv_dmul hx hb dX0_mixed_15 h3 ?_
  refine lv_dload hx hb dX0_mixed_16 (lv_at hl 3 rfl) ?_
  refine lv_dload hx hb dX0_mixed_18 (lv_at hl 4 rfl) ?_
  refine lv_dmul hx hb dX0_mixed_20 h4 ?_
  refine lv_dadd hx hb dX0_mixed_21 h5 ?_
  refine lv_dload hx hb dX0_mixed_22 (lv_at hl 0 rfl) ?_
  refine lv_ddiv hx hb dX0_mixed_24 h6 ?_
  refine lv_goto (tgt := 29) hx hb dX0_mixed_25 (by decide) ?_
  exact W.dret hx hb hr (fun t ht hW => ⟨_, rfl, rfl, ht⟩) (fun q hq => absurd hq List.not_mem_nil) dX0_mixed_29
set_option maxHeartbeats 4000000 in
set_option maxRecDepth 100000 in
/-- mixIn(..) -/
theorem metX0_mixIn (l : Launch) (D : va_G) (sz : Nat) (a : Nat) (w z : Int32) (li ag ac su : UInt64) (more ia ib ic : UInt64) (h1 : mixok li ag more ia) (h2 : mixok li ac more ib) (h3 : mixok li su more ic) : Met l yX0_mixIn wsX0_mixIn { frames := 1, cells := 0, slots := 0, locals := 29 } (Pm D [] [.ref a, .double more, .double ia, .double ib, .double ic] ([(a, .inr (0, [.int w, .int z, .double li, .double ag, .double ac, .double su]))]) sz) (va_Qv (fun (_ : Unit) => True) (Bm D [] (va_A ([(a, .inr (0, [.int w, .int z, .double li, .double ag, .double ac, .double su]))]) sz) ([(a, .inr (0, [.int w, .int z, .double (FP.dadd li more), .double (mixv li ag more ia), .double (mixv li ac more ib), .double (mixv li su more ic)]))])) (va_A ([(a, .inr (0, [.int w, .int z, .double li, .double ag, .double ac, .double su]))]) sz)) 0 0 (va_A ([(a, .inr (0, [.int w, .int z, .double li, .double ag, .double ac, .double su]))]) sz) := by
  refine Met.ofW (cc := cX0_mixIn) (maxL := 9) (ret := none) (by decide) rfl ?_
  intro p e s m args below meth c s₁ B hml hv
  obtain ⟨rfl, hsz, hP, hK, hD0⟩ := hv
  have hx := B.exec
  have hb := B.bytes
  have hr := B.returns
  have hts := atoms_spec (ws := wsX0_mixIn) B.pre
  have hown : s.vm.findClass RX0 = some m.cls := findClass_of_methodNamed B.named
  have hlocks := B.notSynchronized
  subst hsz
  have hD := hD0.self (sz := s.heap.size)
  generalize hAe : va_A ([(a, .inr (0, [.int w, .int z, .double li, .double ag, .double ac, .double su]))]) s.heap.size = A at hD ⊢
  have hA : ∀ q : Nat, s.heap.size ≤ q → A q := fun q h => by rw [← hAe]; exact Or.inr h
  refine kW_H (fun H hH => ?_)
  have hP : va_P D vwCl ([(a, .inr (0, [.int w, .int z, .double li, .double ag, .double ac, .double su]))]) H := by rw [hH]; exact hP
  have hS : va_S A s.heap H [] := by rw [hH]; exact va_S.rf
  have hl := lv_entry ([.ref a, .double more, .double ia, .double ib, .double ic]) (n := 9) (Nat.le_of_ble_eq_true rfl)
  rw [lg_entry_eq]
  generalize (lg_sl ([.ref a, .double more, .double ia, .double ib, .double ic]) ++ List.replicate (9 - (lg_sl ([.ref a, .double more, .double ia, .double ib, .double ic])).length) Slot.unset).toArray = ls at hl ⊢
  have hl : lv_has ls 9 [(0, .ref a), (1, .double more), (3, .double ia), (5, .double ib), (7, .double ic)] := hl
  refine lv_aload_n hx hb dX0_mixIn_0 rfl (lv_at hl 0 rfl) ?_
  refine lv_aload_n hx hb dX0_mixIn_1 rfl (lv_at hl 0 rfl) ?_
  refine va_get (D := D) (ci := 0) (v := .double li) (C := RX0) (T := TX0) (N := 6) hx hb hts (by decide +kernel) hown hK hP (0) rfl rfl 2 (by decide) (hts (.fieldLink RX0 16 "VinegarLoft$Barrel" "litres" "D") (by decide +kernel)) (fun _ h9 => h9) rfl dX0_mixIn_2 ?_
  refine lv_aload_n hx hb dX0_mixIn_5 rfl (lv_at hl 0 rfl) ?_
  refine va_get (D := D) (ci := 0) (v := .double ag) (C := RX0) (T := TX0) (N := 6) hx hb hts (by decide +kernel) hown hK hP (0) rfl rfl 3 (by decide) (hts (.fieldLink RX0 20 "VinegarLoft$Barrel" "age" "D") (by decide +kernel)) (fun _ h9 => h9) rfl dX0_mixIn_6 ?_
  refine lv_dload_n hx hb dX0_mixIn_9 rfl (lv_at hl 1 rfl) ?_
  refine lv_dload_n hx hb dX0_mixIn_10 rfl (lv_at hl 2 rfl) ?_
  refine kr_d (W.runS (As := [.double li, .double ag, .double more, .double ia]) (rest := [.ref a]) ⟨hx, hb, hml, hown, hts⟩ (metX0_mixed l D li ag more ia h1) (va_cwS 4 hts gX0_mixIn_X0_mixed rfl rfl rfl (by decide +kernel) ⟨Nat.le_of_ble_eq_true rfl, Nat.le_of_ble_eq_true rfl⟩) (prS (ws := []) (tys := []) (fun k q h => by simp at h) (hK.sub [] rfl)) rfl rfl hl.1 rfl (lv_room (Nat.le_of_ble_eq_true rfl)) dX0_mixIn_11 ⟨Nat.le_of_ble_eq_true rfl, Nat.le_of_ble_eq_true rfl⟩) ?_
  refine va_put (D := D) (ci := 0) (v := .double (mixv li ag more ia)) (ty := .double) (C := RX0) (T := TX0) (N := 6) hx hb hts (by decide +kernel) tyX0 tyX0_ok nmX0 hown hK hP hD hS (0) rfl rfl 3 (by decide) (hts (.fieldLink RX0 20 "VinegarLoft$Barrel" "age" "D") (by decide +kernel)) (fun _ h9 => h9) rfl (by decide +kernel) rfl rfl (Nat.le_of_ble_eq_true rfl) dX0_mixIn_14 (fun H locs hP hD hS => ?_)
  have hP : va_P D vwCl [(a, .inr (0, [.int w, .int z, .double li, .double (mixv li ag more ia), .double ac, .double su]))] H := hP
  have hD : va_D A [(a, .inr (0, [.int w, .int z, .double li, .double (mixv li ag more ia), .double ac, .double su]))] := hD
  refine lv_aload_n hx hb dX0_mixIn_17 rfl (lv_at hl 0 rfl) ?_
  refine lv_aload_n hx hb dX0_mixIn_18 rfl (lv_at hl 0 rfl) ?_
  refine va_get (D := D) (ci := 0) (v := .double li) (C := RX0) (T := TX0) (N := 6) hx hb hts (by decide +kernel) hown hK hP (0) rfl rfl 2 (by decide) (hts (.fieldLink RX0 16 "VinegarLoft$Barrel" "litres" "D") (by decide +kernel)) (fun _ h9 => h9) rfl dX0_mixIn_19 ?_
  refine lv_aload_n hx hb dX0_mixIn_22 rfl (lv_at hl 0 rfl) ?_
  refine va_get (D := D) (ci := 0) (v := .double ac) (C := RX0) (T := TX0) (N := 6) hx hb hts (by decide +kernel) hown hK hP (0) rfl rfl 4 (by decide) (hts (.fieldLink RX0 23 "VinegarLoft$Barrel" "acid" "D") (by decide +kernel)) (fun _ h9 => h9) rfl dX0_mixIn_23 ?_
  refine lv_dload_n hx hb dX0_mixIn_26 rfl (lv_at hl 1 rfl) ?_
  refine lv_dload hx hb dX0_mixIn_27 (lv_at hl 3 rfl) ?_
  refine kr_d (W.runS (As := [.double li, .double ac, .double more, .double ib]) (rest := [.ref a]) ⟨hx, hb, hml, hown, hts⟩ (metX0_mixed l D li ac more ib h2) (va_cwS 4 hts gX0_mixIn_X0_mixed rfl rfl rfl (by decide +kernel) ⟨Nat.le_of_ble_eq_true rfl, Nat.le_of_ble_eq_true rfl⟩) (prS (ws := []) (tys := []) (fun k q h => by simp at h) (hK.sub [] rfl)) rfl rfl hl.1 rfl (lv_room (Nat.le_of_ble_eq_true rfl)) dX0_mixIn_29 ⟨Nat.le_of_ble_eq_true rfl, Nat.le_of_ble_eq_true rfl⟩) ?_
  refine va_put (D := D) (ci := 0) (v := .double (mixv li ac more ib)) (ty := .double) (C := RX0) (T := TX0) (N := 6) hx hb hts (by decide +kernel) tyX0 tyX0_ok nmX0 hown hK hP hD hS (0) rfl rfl 4 (by decide) (hts (.fieldLink RX0 23 "VinegarLoft$Barrel" "acid" "D") (by decide +kernel)) (fun _ h9 => h9) rfl (by decide +kernel) rfl rfl (Nat.le_of_ble_eq_true rfl) dX0_mixIn_32 (fun H locs hP hD hS => ?_)
  have hP : va_P D vwCl [(a, .inr (0, [.int w, .int z, .double li, .double (mixv li ag more ia), .double (mixv li ac more ib), .double su]))] H := hP
  have hD : va_D A [(a, .inr (0, [.int w, .int z, .double li, .double (mixv li ag more ia), .double (mixv li ac more ib), .double su]))] := hD
  refine lv_aload_n hx hb dX0_mixIn_35 rfl (lv_at hl 0 rfl) ?_
  refine lv_aload_n hx hb dX0_mixIn_36 rfl (lv_at hl 0 rfl) ?_
  refine va_get (D := D) (ci := 0) (v := .double li) (C := RX0) (T := TX0) (N := 6) hx hb hts (by decide +kernel) hown hK hP (0) rfl rfl 2 (by decide) (hts (.fieldLink RX0 16 "VinegarLoft$Barrel" "litres" "D") (by decide +kernel)) (fun _ h9 => h9) rfl dX0_mixIn_37 ?_
  refine lv_aload_n hx hb dX0_mixIn_40 rfl (lv_at hl 0 rfl) ?_
  refine va_get (D := D) (ci := 0) (v := .double su) (C := RX0) (T := TX0) (N := 6) hx hb hts (by decide +kernel) hown hK hP (0) rfl rfl 5 (by decide) (hts (.fieldLink RX0 26 "VinegarLoft$Barrel" "sugar" "D") (by decide +kernel)) (fun _ h9 => h9) rfl dX0_mixIn_41 ?_
  refine lv_dload_n hx hb dX0_mixIn_44 rfl (lv_at hl 1 rfl) ?_
  refine lv_dload hx hb dX0_mixIn_45 (lv_at hl 4 rfl) ?_
  refine kr_d (W.runS (As := [.double li, .double su, .double more, .double ic]) (rest := [.ref a]) ⟨hx, hb, hml, hown, hts⟩ (metX0_mixed l D li su more ic h3) (va_cwS 4 hts gX0_mixIn_X0_mixed rfl rfl rfl (by decide +kernel) ⟨Nat.le_of_ble_eq_true rfl, Nat.le_of_ble_eq_true rfl⟩) (prS (ws := []) (tys := []) (fun k q h => by simp at h) (hK.sub [] rfl)) rfl rfl hl.1 rfl (lv_room (Nat.le_of_ble_eq_true rfl)) dX0_mixIn_47 ⟨Nat.le_of_ble_eq_true rfl, Nat.le_of_ble_eq_true rfl⟩) ?_
  refine va_put (D := D) (ci := 0) (v := .double (mixv li su more ic)) (ty := .double) (C := RX0) (T := TX0) (N := 6) hx hb hts (by decide +kernel) tyX0 tyX0_ok nmX0 hown hK hP hD hS (0) rfl rfl 5 (by decide) (hts (.fieldLink RX0 26 "VinegarLoft$Barrel" "sugar" "D") (by decide +kernel)) (fun _ h9 => h9) rfl (by decide +kernel) rfl rfl (Nat.le_of_ble_eq_true rfl) dX0_mixIn_50 (fun H locs hP hD hS => ?_)
  have hP : va_P D vwCl [(a, .inr (0, [.int w, .int z, .double li, .double (mixv li ag more ia), .double (mixv li ac more ib), .double (mixv li su more ic)]))] H := hP
  have hD : va_D A [(a, .inr (0, [.int w, .int z, .double li, .double (mixv li ag more ia), .double (mixv li ac more ib), .double (mixv li su more ic)]))] := hD
  refine lv_aload_n hx hb dX0_mixIn_53 rfl (lv_at hl 0 rfl) ?_
  refine lv_aload_n hx hb dX0_mixIn_54 rfl (lv_at hl 0 rfl) ?_
  refine va_get (D := D) (ci := 0) (v := .double li) (C := RX0) (T := TX0) (N := 6) hx hb hts (by decide +kernel) hown hK hP (0) rfl rfl 2 (by decide) (hts (.fieldLink RX0 16 "VinegarLoft$Barrel" "litres" "D") (by decide +kernel)) (fun _ h9 => h9) rfl dX0_mixIn_55 ?_
  refine lv_dload_n hx hb dX0_mixIn_58 rfl (lv_at hl 1 rfl) ?_
  refine lv_dadd hx hb dX0_mixIn_59 h1.1 ?_
  refine va_put (D := D) (ci := 0) (v := .double (FP.dadd li more)) (ty := .double) (C := RX0) (T := TX0) (N := 6) hx hb hts (by decide +kernel) tyX0 tyX0_ok nmX0 hown hK hP hD hS (0) rfl rfl 2 (by decide) (hts (.fieldLink RX0 16 "VinegarLoft$Barrel" "litres" "D") (by decide +kernel)) (fun _ h9 => h9) rfl (by decide +kernel) rfl rfl (Nat.le_of_ble_eq_true rfl) dX0_mixIn_60 (fun H locs hP hD hS => ?_)
  have hP : va_P D vwCl [(a, .inr (0, [.int w, .int z, .double (FP.dadd li more), .double (mixv li ag more ia), .double (mixv li ac more ib), .double (mixv li su more ic)]))] H := hP
  have hD : va_D A [(a, .inr (0, [.int w, .int z, .double (FP.dadd li more), .double (mixv li ag more ia), .double (mixv li ac more ib), .double (mixv li su more ic)]))] := hD
  exact W.vret hx hb hr (fun t ht hW => ⟨⟨(), rfl, trivial, by rw [ht]; exact hP, va_K.moved hW.alike hK, hD⟩, hS.F ht⟩) hS.2.2 dX0_mixIn_63
set_option maxHeartbeats 4000000 in
set_option maxRecDepth 100000 in
/-- takeOut(less) -/
theorem metX0_takeOut (l : Launch) (D : va_G) (sz : Nat) (a : Nat) (w z : Int32) (li ag ac su : UInt64) (less : UInt64) (h1 : vf_n64 (FP.dsub li less)) (h2 : FP.dcmp (FP.dsub li less) 0 ≠ none) : Met l yX0_takeOut wsX0_takeOut { frames := 1, cells := 0, slots := 0, locals := 20 } (Pm D [] [.ref a, .double less] ([(a, .inr (0, [.int w, .int z, .double li, .double ag, .double ac, .double su]))]) sz) (va_Qv (fun (_ : Unit) => True) (Bm D [] (va_A ([(a, .inr (0, [.int w, .int z, .double li, .double ag, .double ac, .double su]))]) sz) ([(a, tkE w z li ag ac su less)])) (va_A ([(a, .inr (0, [.int w, .int z, .double li, .double ag, .double ac, .double su]))]) sz)) 0 0 (va_A ([(a, .inr (0, [.int w, .int z, .double li, .double ag, .double ac, .double su]))]) sz) := by
  refine Met.ofW (cc := cX0_takeOut) (maxL := 3) (ret := none) (by decide) rfl ?_
  intro p e s m args below meth c s₁ B hml hv
  obtain ⟨rfl, hsz, hP, hK, hD0⟩ := hv
  have hx := B.exec
  have hb := B.bytes
  have hr := B.returns
  have hts := atoms_spec (ws := wsX0_takeOut) B.pre
  have hown : s.vm.findClass RX0 = some m.cls := findClass_of_methodNamed B.named
  have hlocks := B.notSynchronized
  subst hsz
  have hD := hD0.self (sz := s.heap.size)
  generalize hAe : va_A ([(a, .inr (0, [.int w, .int z, .double li, .double ag, .double ac, .double su]))]) s.heap.size = A at hD ⊢
  have hA : ∀ q : Nat, s.heap.size ≤ q → A q := fun q h => by rw [← hAe]; exact Or.inr h
  refine kW_H (fun H hH => ?_)
  have hP : va_P D vwCl ([(a, .inr (0, [.int w, .int z, .double li, .double ag, .double ac, .double su]))]) H := by rw [hH]; exact hP
  have hS : va_S A s.heap H [] := by rw [hH]; exact va_S.rf
  have hl := lv_entry ([.ref a, .double less]) (n := 3) (Nat.le_of_ble_eq_true rfl)
  rw [lg_entry_eq]
  generalize (lg_sl ([.ref a, .double less]) ++ List.replicate (3 - (lg_sl ([.ref a, .double less])).length) Slot.unset).toArray = ls at hl ⊢
  have hl : lv_has ls 3 [(0, .ref a), (1, .double less)] := hl
  refine lv_aload_n hx hb dX0_takeOut_0 rfl (lv_at hl 0 rfl) ?_
  refine lv_aload_n hx hb dX0_takeOut_1 rfl (lv_at hl 0 rfl) ?_
  refine va_get (D := D) (ci := 0) (v := .double li) (C := RX0) (T := TX0) (N := 6) hx hb hts (by decide +kernel) hown hK hP (0) rfl rfl 2 (by decide) (hts (.fieldLink RX0 16 "VinegarLoft$Barrel" "litres" "D") (by decide +kernel)) (fun _ h9 => h9) rfl dX0_takeOut_2 ?_
  refine lv_dload_n hx hb dX0_takeOut_5 rfl (lv_at hl 1 rfl) ?_
  refine lv_dsub hx hb dX0_takeOut_6 h1 ?_
  refine va_put (D := D) (ci := 0) (v := .double (FP.dsub li less)) (ty := .double) (C := RX0) (T := TX0) (N := 6) hx hb hts (by decide +kernel) tyX0 tyX0_ok nmX0 hown hK hP hD hS (0) rfl rfl 2 (by decide) (hts (.fieldLink RX0 16 "VinegarLoft$Barrel" "litres" "D") (by decide +kernel)) (fun _ h9 => h9) rfl (by decide +kernel) rfl rfl (Nat.le_of_ble_eq_true rfl) dX0_takeOut_7 (fun H locs hP hD hS => ?_)
  have hP : va_P D vwCl [(a, .inr (0, [.int w, .int z, .double (FP.dsub li less), .double ag, .double ac, .double su]))] H := hP
  have hD : va_D A [(a, .inr (0, [.int w, .int z, .double (FP.dsub li less), .double ag, .double ac, .double su]))] := hD
  refine lv_aload_n hx hb dX0_takeOut_10 rfl (lv_at hl 0 rfl) ?_
  refine va_get (D := D) (ci := 0) (v := .double (FP.dsub li less)) (C := RX0) (T := TX0) (N := 6) hx hb hts (by decide +kernel) hown hK hP (0) rfl rfl 2 (by decide) (hts (.fieldLink RX0 16 "VinegarLoft$Barrel" "litres" "D") (by decide +kernel)) (fun _ h9 => h9) rfl dX0_takeOut_11 ?_
  refine kd_0 hx hb dX0_takeOut_14 ?_
  refine kd_gt (tgt := 23) hx hb dX0_takeOut_15 dX0_takeOut_16 (by decide) h2 (fun c15 => ?_) (fun c15 => ?_)
  · have hP : va_P D vwCl ([(a, tkE w z li ag ac su less)]) H := by unfold tkE; rw [if_pos c15]; exact hP
    have hD : va_D A ([(a, tkE w z li ag ac su less)]) := by unfold tkE; rw [if_pos c15]; exact hD
    exact W.vret hx hb hr (fun t ht hW => ⟨⟨(), rfl, trivial, by rw [ht]; exact hP, va_K.moved hW.alike hK, hD⟩, hS.F ht⟩) hS.2.2 dX0_takeOut_23
  · refine lv_aload_n hx hb dX0_takeOut_19 rfl (lv_at hl 0 rfl) ?_
    refine kc_v (w1 := []) (w3 := []) (va_runV (As := []) (rest := []) ⟨hx, hb, hml, hown, hts⟩ (metX0_clear l D H.size a w z (FP.dsub li less) ag ac su) (cwV 0 hts gX0_takeOut_X0_clear rfl rfl rfl (by decide +kernel) ⟨Nat.le_of_ble_eq_true rfl, Nat.le_of_ble_eq_true rfl⟩) (pmV 0 0 RX0 TX0 6 rfl rfl hP (hK.sub [] rfl) hD) rfl rfl hl.1 rfl (lv_room (Nat.le_of_ble_eq_true rfl)) dX0_takeOut_20 ⟨Nat.le_of_ble_eq_true rfl, Nat.le_of_ble_eq_true rfl⟩) hP hD hS hA (fun H locs hP hD hS => ?_)
    have hP : va_P D vwCl [(a, .inr (0, [.int w, .int z, .double 0, .double 0, .double 0, .double 0]))] H := hP
    have hD : va_D A [(a, .inr (0, [.int w, .int z, .double 0, .double 0, .double 0, .double 0]))] := hD
    have hP : va_P D vwCl ([(a, tkE w z li ag ac su less)]) H := by unfold tkE; rw [if_neg c15]; exact hP
    have hD : va_D A ([(a, tkE w z li ag ac su less)]) := by unfold tkE; rw [if_neg c15]; exact hD
    exact W.vret hx hb hr (fun t ht hW => ⟨⟨(), rfl, trivial, by rw [ht]; exact hP, va_K.moved hW.alike hK, hD⟩, hS.F ht⟩) hS.2.2 dX0_takeOut_23
set_option maxHeartbeats 4000000 in
set_option maxRecDepth 100000 in
/-- share(wood) -/
theorem metX0_share (l : Launch) (D : va_G) (k : Int32)  : Met l yX0_share wsX0_share { frames := 0, cells := 0, slots := 0, locals := 0 } (Pr D [] [.int k] ([])) (vp_Sd (fun r : UInt64 => r = shv k)) 0 0 (fun _ => False) := by
  refine Met.ofW (cc := cX0_share) (maxL := 1) (ret := (some .double)) (by decide) rfl ?_
  intro p e s m args below meth c s₁ B hml hv
  obtain ⟨rfl, hP, hK⟩ := hv
  have hx := B.exec
  have hb := B.bytes
  have hr := B.returns
  have hts := atoms_spec (ws := wsX0_share) B.pre
  have hown : s.vm.findClass RX0 = some m.cls := findClass_of_methodNamed B.named
  have hlocks := B.notSynchronized
  have hl := lv_entry ([.int k]) (n := 1) (Nat.le_of_ble_eq_true rfl)
  rw [lg_entry_eq]
  generalize (lg_sl ([.int k]) ++ List.replicate (1 - (lg_sl ([.int k])).length) Slot.unset).toArray = ls at hl ⊢
  have hl : lv_has ls 1 [(0, .int k)] := hl
  refine lv_iload_n hx hb dX0_share_0 rfl (lv_at hl 0 rfl) ?_
  by_cases e0 : k = 0
  · subst e0
    refine lv_tableIn (off := 27) (tgt := 28) hx hb dX0_share_1 (by decide) (by decide) (by decide) (by decide) ?_
    refine lv_ldc2d hx hb hown (hts (.constantDouble RX0 71 4581421828931458171) (by decide +kernel)) dX0_share_28 ?_
    exact W.dret hx hb hr (fun t ht hW => ⟨_, rfl, rfl, ht⟩) (fun q hq => absurd hq List.not_mem_nil) dX0_share_31
  by_cases e1 : k = 1
  · subst e1
    refine lv_tableIn (off := 31) (tgt := 32) hx hb dX0_share_1 (by decide) (by decide) (by decide) (by decide) ?_
    refine lv_ldc2d hx hb hown (hts (.constantDouble RX0 73 4584304132692975288) (by decide +kernel)) dX0_share_32 ?_
    exact W.dret hx hb hr (fun t ht hW => ⟨_, rfl, by unfold shv; rfl, ht⟩) (fun q hq => absurd hq List.not_mem_nil) dX0_share_35
  by_cases e2 : k = 2
  · subst e2
    refine lv_tableIn (off := 35) (tgt := 36) hx hb dX0_share_1 (by decide) (by decide) (by decide) (by decide) ?_
    refine lv_ldc2d hx hb hown (hts (.constantDouble RX0 75 4585204852618449388) (by decide +kernel)) dX0_share_36 ?_
    exact W.dret hx hb hr (fun t ht hW => ⟨_, rfl, by unfold shv; rfl, ht⟩) (fun q hq => absurd hq List.not_mem_nil) dX0_share_39
  refine lv_tableOut (tgt := 40) hx hb dX0_share_1 (by_contra_sw e0 e1 e2) (by decide) ?_
  refine lv_ldc2d hx hb hown (hts (.constantDouble RX0 77 4582862980812216730) (by decide +kernel)) dX0_share_40 ?_
  exact W.dret hx hb hr (fun t ht hW => ⟨_, rfl, by unfold shv; rw [if_neg e0, if_neg e1, if_neg e2], ht⟩) (fun q hq => absurd hq List.not_mem_nil) dX0_share_43
set_option maxHeartbeats 4000000 in
set_option maxRecDepth 100000 in
/-- sour() -/
theorem metX0_sour (l : Launch) (D : va_G) (sz : Nat) (a : Nat) (w z : Int32) (li ag ac su : UInt64) (h : sook ac su) : Met l yX0_sour wsX0_sour { frames := 0, cells := 0, slots := 0, locals := 0 } (Pm D [] [.ref a] ([(a, .inr (0, [.int w, .int z, .double li, .double ag, .double ac, .double su]))]) sz) (va_Qv (fun (_ : Unit) => True) (Bm D [] (va_A ([(a, .inr (0, [.int w, .int z, .double li, .double ag, .double ac, .double su]))]) sz) ([(a, .inr (0, [.int w, .int z, .double li, .double ag, .double (soA ac su), .double (soS ac su)]))])) (va_A ([(a, .inr (0, [.int w, .int z, .double li, .double ag, .double ac, .double su]))]) sz)) 0 0 (va_A ([(a, .inr (0, [.int w, .int z, .double li, .double ag, .double ac, .double su]))]) sz) := by
  refine Met.ofW (cc := cX0_sour) (maxL := 3) (ret := none) (by decide) rfl ?_
  intro p e s m args below meth c s₁ B hml hv
  obtain ⟨rfl, hsz, hP, hK, hD0⟩ := hv
  have hx := B.exec
  have hb := B.bytes
  have hr := B.returns
  have hts := atoms_spec (ws := wsX0_sour) B.pre
  have hown : s.vm.findClass RX0 = some m.cls := findClass_of_methodNamed B.named
  have hlocks := B.notSynchronized
  subst hsz
  have hD := hD0.self (sz := s.heap.size)
  generalize hAe : va_A ([(a, .inr (0, [.int w, .int z, .double li, .double ag, .double ac, .double su]))]) s.heap.size = A at hD ⊢
  have hA : ∀ q : Nat, s.heap.size ≤ q → A q := fun q h => by rw [← hAe]; exact Or.inr h
  refine kW_H (fun H hH => ?_)
  have hP : va_P D vwCl ([(a, .inr (0, [.int w, .int z, .double li, .double ag, .double ac, .double su]))]) H := by rw [hH]; exact hP
  have hS : va_S A s.heap H [] := by rw [hH]; exact va_S.rf
  have hl := lv_entry ([.ref a]) (n := 3) (Nat.le_of_ble_eq_true rfl)
  rw [lg_entry_eq]
  generalize (lg_sl ([.ref a]) ++ List.replicate (3 - (lg_sl ([.ref a])).length) Slot.unset).toArray = ls at hl ⊢
  have hl : lv_has ls 3 [(0, .ref a)] := hl
  obtain ⟨h1, h2, h3, h4, h5, h6⟩ := h
  refine lv_aload_n hx hb dX0_sour_0 rfl (lv_at hl 0 rfl) ?_
  refine va_get (D := D) (ci := 0) (v := .double su) (C := RX0) (T := TX0) (N := 6) hx hb hts (by decide +kernel) hown hK hP (0) rfl rfl 5 (by decide) (hts (.fieldLink RX0 26 "VinegarLoft$Barrel" "sugar" "D") (by decide +kernel)) (fun _ h9 => h9) rfl dX0_sour_1 ?_
  refine lv_ldc2d hx hb hown (hts (.constantDouble RX0 53 4626322717216342016) (by decide +kernel)) dX0_sour_4 ?_
  refine kd_le (tgt := 49) hx hb dX0_sour_7 dX0_sour_8 (by decide) h1 (fun c7 => ?_) (fun c7 => ?_)
  · refine lv_aload_n hx hb dX0_sour_49 rfl (lv_at hl 0 rfl) ?_
    refine va_get (D := D) (ci := 0) (v := .double ac) (C := RX0) (T := TX0) (N := 6) hx hb hts (by decide +kernel) hown hK hP (0) rfl rfl 4 (by decide) (hts (.fieldLink RX0 23 "VinegarLoft$Barrel" "acid" "D") (by decide +kernel)) (fun _ h9 => h9) rfl dX0_sour_50 ?_
    refine lv_ldc2d hx hb hown (hts (.constantDouble RX0 61 4591870180066957722) (by decide +kernel)) dX0_sour_53 ?_
    refine lv_dadd hx hb dX0_sour_56 h5 ?_
    refine lv_dstore_n (lv' := [(1, .double (FP.dadd ac 4591870180066957722)), (0, .ref a)]) hx hb dX0_sour_57 rfl hl (by decide) rfl (fun ls hl => ?_)
    refine lv_aload_n hx hb dX0_sour_58 rfl (lv_at hl 1 rfl) ?_
    refine lv_dload_n hx hb dX0_sour_59 rfl (lv_at hl 0 rfl) ?_
    refine lv_ldc2d hx hb hown (hts (.constantDouble RX0 63 4622945017495814144) (by decide +kernel)) dX0_sour_60 ?_
    refine kd_le (tgt := 73) hx hb dX0_sour_63 dX0_sour_64 (by decide) h6 (fun c63 => ?_) (fun c63 => ?_)
    · refine lv_dload_n hx hb dX0_sour_73 rfl (lv_at hl 0 rfl) ?_
      refine va_put (D := D) (ci := 0) (v := .double (FP.dadd ac 4591870180066957722)) (ty := .double) (C := RX0) (T := TX0) (N := 6) hx hb hts (by decide +kernel) tyX0 tyX0_ok nmX0 hown hK hP hD hS (0) rfl rfl 4 (by decide) (hts (.fieldLink RX0 23 "VinegarLoft$Barrel" "acid" "D") (by decide +kernel)) (fun _ h9 => h9) rfl (by decide +kernel) rfl rfl (Nat.le_of_ble_eq_true rfl) dX0_sour_74 (fun H locs hP hD hS => ?_)
      have hP : va_P D vwCl [(a, .inr (0, [.int w, .int z, .double li, .double ag, .double (FP.dadd ac 4591870180066957722), .double su]))] H := hP
      have hD : va_D A [(a, .inr (0, [.int w, .int z, .double li, .double ag, .double (FP.dadd ac 4591870180066957722), .double su]))] := hD
      have hP : va_P D vwCl ([(a, .inr (0, [.int w, .int z, .double li, .double ag, .double (soA ac su), .double (soS ac su)]))]) H := by unfold soA soS; have hn : ¬ (FP.dcmp su 4626322717216342016 = some .gt ∧ FP.dcmp ac 4620693217682128896 = some .lt) := fun h9 => c7 h9.1; rw [if_neg hn, if_neg hn, if_neg c63]; exact hP
      have hD : va_D A ([(a, .inr (0, [.int w, .int z, .double li, .double ag, .double (soA ac su), .double (soS ac su)]))]) := by unfold soA soS; have hn : ¬ (FP.dcmp su 4626322717216342016 = some .gt ∧ FP.dcmp ac 4620693217682128896 = some .lt) := fun h9 => c7 h9.1; rw [if_neg hn, if_neg hn, if_neg c63]; exact hD
      exact W.vret hx hb hr (fun t ht hW => ⟨⟨(), rfl, trivial, by rw [ht]; exact hP, va_K.moved hW.alike hK, hD⟩, hS.F ht⟩) hS.2.2 dX0_sour_77
    · refine lv_ldc2d hx hb hown (hts (.constantDouble RX0 63 4622945017495814144) (by decide +kernel)) dX0_sour_67 ?_
      refine lv_goto (tgt := 74) hx hb dX0_sour_70 (by decide) ?_
      refine va_put (D := D) (ci := 0) (v := .double 4622945017495814144) (ty := .double) (C := RX0) (T := TX0) (N := 6) hx hb hts (by decide +kernel) tyX0 tyX0_ok nmX0 hown hK hP hD hS (0) rfl rfl 4 (by decide) (hts (.fieldLink RX0 23 "VinegarLoft$Barrel" "acid" "D") (by decide +kernel)) (fun _ h9 => h9) rfl (by decide +kernel) rfl rfl (Nat.le_of_ble_eq_true rfl) dX0_sour_74 (fun H locs hP hD hS => ?_)
      have hP : va_P D vwCl [(a, .inr (0, [.int w, .int z, .double li, .double ag, .double 4622945017495814144, .double su]))] H := hP
      have hD : va_D A [(a, .inr (0, [.int w, .int z, .double li, .double ag, .double 4622945017495814144, .double su]))] := hD
      have hP : va_P D vwCl ([(a, .inr (0, [.int w, .int z, .double li, .double ag, .double (soA ac su), .double (soS ac su)]))]) H := by unfold soA soS; have hn : ¬ (FP.dcmp su 4626322717216342016 = some .gt ∧ FP.dcmp ac 4620693217682128896 = some .lt) := fun h9 => c7 h9.1; rw [if_neg hn, if_neg hn, if_pos c63]; exact hP
      have hD : va_D A ([(a, .inr (0, [.int w, .int z, .double li, .double ag, .double (soA ac su), .double (soS ac su)]))]) := by unfold soA soS; have hn : ¬ (FP.dcmp su 4626322717216342016 = some .gt ∧ FP.dcmp ac 4620693217682128896 = some .lt) := fun h9 => c7 h9.1; rw [if_neg hn, if_neg hn, if_pos c63]; exact hD
      exact W.vret hx hb hr (fun t ht hW => ⟨⟨(), rfl, trivial, by rw [ht]; exact hP, va_K.moved hW.alike hK, hD⟩, hS.F ht⟩) hS.2.2 dX0_sour_77
  · refine lv_aload_n hx hb dX0_sour_11 rfl (lv_at hl 0 rfl) ?_
    refine va_get (D := D) (ci := 0) (v := .double ac) (C := RX0) (T := TX0) (N := 6) hx hb hts (by decide +kernel) hown hK hP (0) rfl rfl 4 (by decide) (hts (.fieldLink RX0 23 "VinegarLoft$Barrel" "acid" "D") (by decide +kernel)) (fun _ h9 => h9) rfl dX0_sour_12 ?_
    refine lv_ldc2d hx hb hown (hts (.constantDouble RX0 55 4620693217682128896) (by decide +kernel)) dX0_sour_15 ?_
    refine kd_ge (tgt := 49) hx hb dX0_sour_18 dX0_sour_19 (by decide) h2 (fun c18 => ?_) (fun c18 => ?_)
    · refine lv_aload_n hx hb dX0_sour_49 rfl (lv_at hl 0 rfl) ?_
      refine va_get (D := D) (ci := 0) (v := .double ac) (C := RX0) (T := TX0) (N := 6) hx hb hts (by decide +kernel) hown hK hP (0) rfl rfl 4 (by decide) (hts (.fieldLink RX0 23 "VinegarLoft$Barrel" "acid" "D") (by decide +kernel)) (fun _ h9 => h9) rfl dX0_sour_50 ?_
      refine lv_ldc2d hx hb hown (hts (.constantDouble RX0 61 4591870180066957722) (by decide +kernel)) dX0_sour_53 ?_
      refine lv_dadd hx hb dX0_sour_56 h5 ?_
      refine lv_dstore_n (lv' := [(1, .double (FP.dadd ac 4591870180066957722)), (0, .ref a)]) hx hb dX0_sour_57 rfl hl (by decide) rfl (fun ls hl => ?_)
      refine lv_aload_n hx hb dX0_sour_58 rfl (lv_at hl 1 rfl) ?_
      refine lv_dload_n hx hb dX0_sour_59 rfl (lv_at hl 0 rfl) ?_
      refine lv_ldc2d hx hb hown (hts (.constantDouble RX0 63 4622945017495814144) (by decide +kernel)) dX0_sour_60 ?_
      refine kd_le (tgt := 73) hx hb dX0_sour_63 dX0_sour_64 (by decide) h6 (fun c63 => ?_) (fun c63 => ?_)
      · refine lv_dload_n hx hb dX0_sour_73 rfl (lv_at hl 0 rfl) ?_
        refine va_put (D := D) (ci := 0) (v := .double (FP.dadd ac 4591870180066957722)) (ty := .double) (C := RX0) (T := TX0) (N := 6) hx hb hts (by decide +kernel) tyX0 tyX0_ok nmX0 hown hK hP hD hS (0) rfl rfl 4 (by decide) (hts (.fieldLink RX0 23 "VinegarLoft$Barrel" "acid" "D") (by decide +kernel)) (fun _ h9 => h9) rfl (by decide +kernel) rfl rfl (Nat.le_of_ble_eq_true rfl) dX0_sour_74 (fun H locs hP hD hS => ?_)
        have hP : va_P D vwCl [(a, .inr (0, [.int w, .int z, .double li, .double ag, .double (FP.dadd ac 4591870180066957722), .double su]))] H := hP
        have hD : va_D A [(a, .inr (0, [.int w, .int z, .double li, .double ag, .double (FP.dadd ac 4591870180066957722), .double su]))] := hD
        have hP : va_P D vwCl ([(a, .inr (0, [.int w, .int z, .double li, .double ag, .double (soA ac su), .double (soS ac su)]))]) H := by unfold soA soS; have hn : ¬ (FP.dcmp su 4626322717216342016 = some .gt ∧ FP.dcmp ac 4620693217682128896 = some .lt) := fun h9 => c18 h9.2; rw [if_neg hn, if_neg hn, if_neg c63]; exact hP
        have hD : va_D A ([(a, .inr (0, [.int w, .int z, .double li, .double ag, .double (soA ac su), .double (soS ac su)]))]) := by unfold soA soS; have hn : ¬ (FP.dcmp su 4626322717216342016 = some .gt ∧ FP.dcmp ac 4620693217682128896 = some .lt) := fun h9 => c18 h9.2; rw [if_neg hn, if_neg hn, if_neg c63]; exact hD
        exact W.vret hx hb hr (fun t ht hW => ⟨⟨(), rfl, trivial, by rw [ht]; exact hP, va_K.moved hW.alike hK, hD⟩, hS.F ht⟩) hS.2.2 dX0_sour_77
      · refine lv_ldc2d hx hb hown (hts (.constantDouble RX0 63 4622945017495814144) (by decide +kernel)) dX0_sour_67 ?_
        refine lv_goto (tgt := 74) hx hb dX0_sour_70 (by decide) ?_
        refine va_put (D := D) (ci := 0) (v := .double 4622945017495814144) (ty := .double) (C := RX0) (T := TX0) (N := 6) hx hb hts (by decide +kernel) tyX0 tyX0_ok nmX0 hown hK hP hD hS (0) rfl rfl 4 (by decide) (hts (.fieldLink RX0 23 "VinegarLoft$Barrel" "acid" "D") (by decide +kernel)) (fun _ h9 => h9) rfl (by decide +kernel) rfl rfl (Nat.le_of_ble_eq_true rfl) dX0_sour_74 (fun H locs hP hD hS => ?_)
        have hP : va_P D vwCl [(a, .inr (0, [.int w, .int z, .double li, .double ag, .double 4622945017495814144, .double su]))] H := hP
        have hD : va_D A [(a, .inr (0, [.int w, .int z, .double li, .double ag, .double 4622945017495814144, .double su]))] := hD
        have hP : va_P D vwCl ([(a, .inr (0, [.int w, .int z, .double li, .double ag, .double (soA ac su), .double (soS ac su)]))]) H := by unfold soA soS; have hn : ¬ (FP.dcmp su 4626322717216342016 = some .gt ∧ FP.dcmp ac 4620693217682128896 = some .lt) := fun h9 => c18 h9.2; rw [if_neg hn, if_neg hn, if_pos c63]; exact hP
        have hD : va_D A ([(a, .inr (0, [.int w, .int z, .double li, .double ag, .double (soA ac su), .double (soS ac su)]))]) := by unfold soA soS; have hn : ¬ (FP.dcmp su 4626322717216342016 = some .gt ∧ FP.dcmp ac 4620693217682128896 = some .lt) := fun h9 => c18 h9.2; rw [if_neg hn, if_neg hn, if_pos c63]; exact hD
        exact W.vret hx hb hr (fun t ht hW => ⟨⟨(), rfl, trivial, by rw [ht]; exact hP, va_K.moved hW.alike hK, hD⟩, hS.F ht⟩) hS.2.2 dX0_sour_77
    · refine lv_aload_n hx hb dX0_sour_22 rfl (lv_at hl 0 rfl) ?_
      refine lv_aload_n hx hb dX0_sour_23 rfl (lv_at hl 0 rfl) ?_
      refine va_get (D := D) (ci := 0) (v := .double ac) (C := RX0) (T := TX0) (N := 6) hx hb hts (by decide +kernel) hown hK hP (0) rfl rfl 4 (by decide) (hts (.fieldLink RX0 23 "VinegarLoft$Barrel" "acid" "D") (by decide +kernel)) (fun _ h9 => h9) rfl dX0_sour_24 ?_
      refine lv_ldc2d hx hb hown (hts (.constantDouble RX0 57 4603579539098121011) (by decide +kernel)) dX0_sour_27 ?_
      refine lv_dadd hx hb dX0_sour_30 h3 ?_
      refine va_put (D := D) (ci := 0) (v := .double (FP.dadd ac 4603579539098121011)) (ty := .double) (C := RX0) (T := TX0) (N := 6) hx hb hts (by decide +kernel) tyX0 tyX0_ok nmX0 hown hK hP hD hS (0) rfl rfl 4 (by decide) (hts (.fieldLink RX0 23 "VinegarLoft$Barrel" "acid" "D") (by decide +kernel)) (fun _ h9 => h9) rfl (by decide +kernel) rfl rfl (Nat.le_of_ble_eq_true rfl) dX0_sour_31 (fun H locs hP hD hS => ?_)
      have hP : va_P D vwCl [(a, .inr (0, [.int w, .int z, .double li, .double ag, .double (FP.dadd ac 4603579539098121011), .double su]))] H := hP
      have hD : va_D A [(a, .inr (0, [.int w, .int z, .double li, .double ag, .double (FP.dadd ac 4603579539098121011), .double su]))] := hD
      refine lv_aload_n hx hb dX0_sour_34 rfl (lv_at hl 0 rfl) ?_
      refine lv_aload_n hx hb dX0_sour_35 rfl (lv_at hl 0 rfl) ?_
      refine va_get (D := D) (ci := 0) (v := .double su) (C := RX0) (T := TX0) (N := 6) hx hb hts (by decide +kernel) hown hK hP (0) rfl rfl 5 (by decide) (hts (.fieldLink RX0 26 "VinegarLoft$Barrel" "sugar" "D") (by decide +kernel)) (fun _ h9 => h9) rfl dX0_sour_36 ?_
      refine lv_ldc2d hx hb hown (hts (.constantDouble RX0 59 4605380978949069210) (by decide +kernel)) dX0_sour_39 ?_
      refine lv_dsub hx hb dX0_sour_42 h4 ?_
      refine va_put (D := D) (ci := 0) (v := .double (FP.dsub su 4605380978949069210)) (ty := .double) (C := RX0) (T := TX0) (N := 6) hx hb hts (by decide +kernel) tyX0 tyX0_ok nmX0 hown hK hP hD hS (0) rfl rfl 5 (by decide) (hts (.fieldLink RX0 26 "VinegarLoft$Barrel" "sugar" "D") (by decide +kernel)) (fun _ h9 => h9) rfl (by decide +kernel) rfl rfl (Nat.le_of_ble_eq_true rfl) dX0_sour_43 (fun H locs hP hD hS => ?_)
      have hP : va_P D vwCl [(a, .inr (0, [.int w, .int z, .double li, .double ag, .double (FP.dadd ac 4603579539098121011), .double (FP.dsub su 4605380978949069210)]))] H := hP
      have hD : va_D A [(a, .inr (0, [.int w, .int z, .double li, .double ag, .double (FP.dadd ac 4603579539098121011), .double (FP.dsub su 4605380978949069210)]))] := hD
      refine lv_goto (tgt := 77) hx hb dX0_sour_46 (by decide) ?_
      have hP : va_P D vwCl ([(a, .inr (0, [.int w, .int z, .double li, .double ag, .double (soA ac su), .double (soS ac su)]))]) H := by unfold soA soS; rw [if_pos ⟨c7, c18⟩, if_pos ⟨c7, c18⟩]; exact hP
      have hD : va_D A ([(a, .inr (0, [.int w, .int z, .double li, .double ag, .double (soA ac su), .double (soS ac su)]))]) := by unfold soA soS; rw [if_pos ⟨c7, c18⟩, if_pos ⟨c7, c18⟩]; exact hD
      exact W.vret hx hb hr (fun t ht hW => ⟨⟨(), rfl, trivial, by rw [ht]; exact hP, va_K.moved hW.alike hK, hD⟩, hS.F ht⟩) hS.2.2 dX0_sour_77
set_option maxHeartbeats 4000000 in
set_option maxRecDepth 100000 in
/-- spendYear(draught), of one that is not empty -/
theorem metX0_spendYear (l : Launch) (D : va_G) (sz : Nat) (a : Nat) (w z : Int32) (li ag ac su : UInt64) (dr : UInt64) (hy : yearok w li ag ac su dr) : Met l yX0_spendYear wsX0_spendYear { frames := 2, cells := 0, slots := 0, locals := 42 } (Pm D [] [.ref a, .double dr] ([(a, .inr (0, [.int w, .int z, .double li, .double ag, .double ac, .double su]))]) sz) (va_Qd (fun (r : UInt64) (_ : Unit) => r = losv w li dr) (Bm D [] (va_A ([(a, .inr (0, [.int w, .int z, .double li, .double ag, .double ac, .double su]))]) sz) ([(a, .inr (0, [.int w, .int z, .double (FP.dsub li (losv w li dr)), .double (FP.dadd ag 4607182418800017408), .double (soA ac (thick su li (FP.dsub li (losv w li dr)))), .double (soS ac (thick su li (FP.dsub li (losv w li dr))))]))])) (va_A ([(a, .inr (0, [.int w, .int z, .double li, .double ag, .double ac, .double su]))]) sz)) 0 0 (va_A ([(a, .inr (0, [.int w, .int z, .double li, .double ag, .double ac, .double su]))]) sz) := by
  refine Met.ofW (cc := cX0_spendYear) (maxL := 9) (ret := (some .double)) (by decide) rfl ?_
  intro p e s m args below meth c s₁ B hml hv
  obtain ⟨rfl, hsz, hP, hK, hD0⟩ := hv
  have hx := B.exec
  have hb := B.bytes
  have hr := B.returns
  have hts := atoms_spec (ws := wsX0_spendYear) B.pre
  have hown : s.vm.findClass RX0 = some m.cls := findClass_of_methodNamed B.named
  have hlocks := B.notSynchronized
  subst hsz
  have hD := hD0.self (sz := s.heap.size)
  generalize hAe : va_A ([(a, .inr (0, [.int w, .int z, .double li, .double ag, .double ac, .double su]))]) s.heap.size = A at hD ⊢
  have hA : ∀ q : Nat, s.heap.size ≤ q → A q := fun q h => by rw [← hAe]; exact Or.inr h
  refine kW_H (fun H hH => ?_)
  have hP : va_P D vwCl ([(a, .inr (0, [.int w, .int z, .double li, .double ag, .double ac, .double su]))]) H := by rw [hH]; exact hP
  have hS : va_S A s.heap H [] := by rw [hH]; exact va_S.rf
  have hl := lv_entry ([.ref a, .double dr]) (n := 9) (Nat.le_of_ble_eq_true rfl)
  rw [lg_entry_eq]
  generalize (lg_sl ([.ref a, .double dr]) ++ List.replicate (9 - (lg_sl ([.ref a, .double dr])).length) Slot.unset).toArray = ls at hl ⊢
  have hl : lv_has ls 9 [(0, .ref a), (1, .double dr)] := hl
  obtain ⟨y1, y2, y3, y4, y5, y6, y7, y8, y9⟩ := hy
  obtain ⟨be, hbe⟩ : ∃ be, FP.dsub li (losv w li dr) = be := ⟨_, rfl⟩
  refine lv_aload_n hx hb dX0_spendYear_0 rfl (lv_at hl 0 rfl) ?_
  refine va_get (D := D) (ci := 0) (v := .double li) (C := RX0) (T := TX0) (N := 6) hx hb hts (by decide +kernel) hown hK hP (0) rfl rfl 2 (by decide) (hts (.fieldLink RX0 16 "VinegarLoft$Barrel" "litres" "D") (by decide +kernel)) (fun _ h9 => h9) rfl dX0_spendYear_1 ?_
  refine lv_dstore_n (lv' := [(3, .double li), (0, .ref a), (1, .double dr)]) hx hb dX0_spendYear_4 rfl hl (by decide) rfl (fun ls hl => ?_)
  refine lv_aload_n hx hb dX0_spendYear_5 rfl (lv_at hl 1 rfl) ?_
  refine va_get (D := D) (ci := 0) (v := .double li) (C := RX0) (T := TX0) (N := 6) hx hb hts (by decide +kernel) hown hK hP (0) rfl rfl 2 (by decide) (hts (.fieldLink RX0 16 "VinegarLoft$Barrel" "litres" "D") (by decide +kernel)) (fun _ h9 => h9) rfl dX0_spendYear_6 ?_
  refine lv_aload_n hx hb dX0_spendYear_9 rfl (lv_at hl 1 rfl) ?_
  refine va_get (D := D) (ci := 0) (v := .int w) (C := RX0) (T := TX0) (N := 6) hx hb hts (by decide +kernel) hown hK hP (0) rfl rfl 0 (by decide) (hts (.fieldLink RX0 7 "VinegarLoft$Barrel" "wood" "I") (by decide +kernel)) (fun _ h9 => h9) rfl dX0_spendYear_10 ?_
  refine kr_d (W.runS (As := [.int w]) (rest := [.double li]) ⟨hx, hb, hml, hown, hts⟩ (metX0_share l D w) (va_cwS 1 hts gX0_spendYear_X0_share rfl rfl rfl (by decide +kernel) ⟨Nat.le_of_ble_eq_true rfl, Nat.le_of_ble_eq_true rfl⟩) (prS (ws := []) (tys := []) (fun k q h => by simp at h) (hK.sub [] rfl)) rfl rfl hl.1 rfl (lv_room (Nat.le_of_ble_eq_true rfl)) dX0_spendYear_13 ⟨Nat.le_of_ble_eq_true rfl, Nat.le_of_ble_eq_true rfl⟩) ?_
  refine lv_dmul hx hb dX0_spendYear_16 y1 ?_
  refine lv_dload_n hx hb dX0_spendYear_17 rfl (lv_at hl 2 rfl) ?_
  refine lv_dmul hx hb dX0_spendYear_18 y2 ?_
  refine lv_dstore (lv' := [(5, .double (losv w li dr)), (3, .double li), (0, .ref a), (1, .double dr)]) hx hb dX0_spendYear_19 hl (by decide) rfl (fun ls hl => ?_)
  refine lv_aload_n hx hb dX0_spendYear_21 rfl (lv_at hl 2 rfl) ?_
  refine lv_dload hx hb dX0_spendYear_22 (lv_at hl 0 rfl) ?_
  refine kc_v (w1 := []) (w3 := []) (va_runV (As := [.double (losv w li dr)]) (rest := []) ⟨hx, hb, hml, hown, hts⟩ (metX0_takeOut l D H.size a w z li ag ac su (losv w li dr) y3 (gt_ne y4)) (cwV 1 hts gX0_spendYear_X0_takeOut rfl rfl rfl (by decide +kernel) ⟨Nat.le_of_ble_eq_true rfl, Nat.le_of_ble_eq_true rfl⟩) (pmV 0 0 RX0 TX0 6 rfl rfl hP (hK.sub [] rfl) hD) rfl rfl hl.1 rfl (lv_room (Nat.le_of_ble_eq_true rfl)) dX0_spendYear_24 ⟨Nat.le_of_ble_eq_true rfl, Nat.le_of_ble_eq_true rfl⟩) hP hD hS hA (fun H locs hP hD hS => ?_)
  have hP : va_P D vwCl [(a, tkE w z li ag ac su (losv w li dr))] H := hP
  have hD : va_D A [(a, tkE w z li ag ac su (losv w li dr))] := hD
  have ek : tkE w z li ag ac su (losv w li dr) = EB w z be ag ac su := by unfold tkE; rw [hbe, if_pos (by rw [hbe] at y4; exact y4)]
  rw [ek] at hP hD
  refine lv_aload_n hx hb dX0_spendYear_27 rfl (lv_at hl 2 rfl) ?_
  rw [hbe] at y4
  refine kr_i (W.runV (As := []) (rest := []) ⟨hx, hb, hml, hown, hts⟩ (metX0_isEmpty l D a w z be ag ac su (gt_ne y4)) (cwV 0 hts gX0_spendYear_X0_isEmpty rfl rfl rfl (by decide +kernel) ⟨Nat.le_of_ble_eq_true rfl, Nat.le_of_ble_eq_true rfl⟩) (prV 0 0 RX0 TX0 6 rfl rfl hP (hK.sub [] rfl)) rfl rfl hl.1 rfl (lv_room (Nat.le_of_ble_eq_true rfl)) dX0_spendYear_28 ⟨Nat.le_of_ble_eq_true rfl, Nat.le_of_ble_eq_true rfl⟩) ?_
  rw [show emp be = 0 from if_pos y4]
  refine lv_if_ne (tgt := 82) hx hb dX0_spendYear_31 (by decide) (fun c31 => absurd c31 (fun h9 => h9 rfl)) (fun c31 => ?_)
  refine lv_aload_n hx hb dX0_spendYear_34 rfl (lv_at hl 2 rfl) ?_
  refine va_get (D := D) (ci := 0) (v := .double su) (C := RX0) (T := TX0) (N := 6) hx hb hts (by decide +kernel) hown hK hP (0) rfl rfl 5 (by decide) (hts (.fieldLink RX0 26 "VinegarLoft$Barrel" "sugar" "D") (by decide +kernel)) (fun _ h9 => h9) rfl dX0_spendYear_35 ?_
  refine lv_dload_n hx hb dX0_spendYear_38 rfl (lv_at hl 1 rfl) ?_
  refine lv_dmul hx hb dX0_spendYear_39 y5 ?_
  refine lv_aload_n hx hb dX0_spendYear_40 rfl (lv_at hl 2 rfl) ?_
  refine va_get (D := D) (ci := 0) (v := .double be) (C := RX0) (T := TX0) (N := 6) hx hb hts (by decide +kernel) hown hK hP (0) rfl rfl 2 (by decide) (hts (.fieldLink RX0 16 "VinegarLoft$Barrel" "litres" "D") (by decide +kernel)) (fun _ h9 => h9) rfl dX0_spendYear_41 ?_
  refine lv_ddiv hx hb dX0_spendYear_44 (by rw [← hbe]; exact y6) ?_
  refine lv_dstore (lv' := [(7, .double (FP.ddiv (FP.dmul su li) be)), (5, .double (losv w li dr)), (3, .double li), (0, .ref a), (1, .double dr)]) hx hb dX0_spendYear_45 hl (by decide) rfl (fun ls hl => ?_)
  refine lv_aload_n hx hb dX0_spendYear_47 rfl (lv_at hl 3 rfl) ?_
  refine lv_dload hx hb dX0_spendYear_48 (lv_at hl 0 rfl) ?_
  refine lv_ldc2d hx hb hown (hts (.constantDouble RX0 48 4634626229029306368) (by decide +kernel)) dX0_spendYear_50 ?_
  refine kd_le (tgt := 63) hx hb dX0_spendYear_53 dX0_spendYear_54 (by decide) (by rw [← hbe]; exact y7) (fun c53 => ?_) (fun c53 => ?_)
  · refine lv_dload hx hb dX0_spendYear_63 (lv_at hl 0 rfl) ?_
    refine kd_eq (show (FP.ddiv (FP.dmul su li) be) = thick su li be from by unfold thick; rw [if_neg c53]) ?_
    refine va_put (D := D) (ci := 0) (v := .double (thick su li be)) (ty := .double) (C := RX0) (T := TX0) (N := 6) hx hb hts (by decide +kernel) tyX0 tyX0_ok nmX0 hown hK hP hD hS (0) rfl rfl 5 (by decide) (hts (.fieldLink RX0 26 "VinegarLoft$Barrel" "sugar" "D") (by decide +kernel)) (fun _ h9 => h9) rfl (by decide +kernel) rfl rfl (Nat.le_of_ble_eq_true rfl) dX0_spendYear_65 (fun H locs hP hD hS => ?_)
    have hP : va_P D vwCl [(a, .inr (0, [.int w, .int z, .double be, .double ag, .double ac, .double (thick su li be)]))] H := hP
    have hD : va_D A [(a, .inr (0, [.int w, .int z, .double be, .double ag, .double ac, .double (thick su li be)]))] := hD
    refine lv_aload_n hx hb dX0_spendYear_68 rfl (lv_at hl 3 rfl) ?_
    have y8 : sook ac (thick su li be) := by rw [← hbe]; exact y8
    refine kc_v (w1 := []) (w3 := []) (va_runV (As := []) (rest := []) ⟨hx, hb, hml, hown, hts⟩ (metX0_sour l D H.size a w z be ag ac (thick su li be) y8) (cwV 0 hts gX0_spendYear_X0_sour rfl rfl rfl (by decide +kernel) ⟨Nat.le_of_ble_eq_true rfl, Nat.le_of_ble_eq_true rfl⟩) (pmV 0 0 RX0 TX0 6 rfl rfl hP (hK.sub [] rfl) hD) rfl rfl hl.1 rfl (lv_room (Nat.le_of_ble_eq_true rfl)) dX0_spendYear_69 ⟨Nat.le_of_ble_eq_true rfl, Nat.le_of_ble_eq_true rfl⟩) hP hD hS hA (fun H locs hP hD hS => ?_)
    have hP : va_P D vwCl [(a, .inr (0, [.int w, .int z, .double be, .double ag, .double (soA ac (thick su li be)), .double (soS ac (thick su li be))]))] H := hP
    have hD : va_D A [(a, .inr (0, [.int w, .int z, .double be, .double ag, .double (soA ac (thick su li be)), .double (soS ac (thick su li be))]))] := hD
    refine lv_aload_n hx hb dX0_spendYear_72 rfl (lv_at hl 3 rfl) ?_
    refine lv_aload_n hx hb dX0_spendYear_73 rfl (lv_at hl 3 rfl) ?_
    refine va_get (D := D) (ci := 0) (v := .double ag) (C := RX0) (T := TX0) (N := 6) hx hb hts (by decide +kernel) hown hK hP (0) rfl rfl 3 (by decide) (hts (.fieldLink RX0 20 "VinegarLoft$Barrel" "age" "D") (by decide +kernel)) (fun _ h9 => h9) rfl dX0_spendYear_74 ?_
    refine kd_1 hx hb dX0_spendYear_77 ?_
    refine lv_dadd hx hb dX0_spendYear_78 y9 ?_
    refine va_put (D := D) (ci := 0) (v := .double (FP.dadd ag 4607182418800017408)) (ty := .double) (C := RX0) (T := TX0) (N := 6) hx hb hts (by decide +kernel) tyX0 tyX0_ok nmX0 hown hK hP hD hS (0) rfl rfl 3 (by decide) (hts (.fieldLink RX0 20 "VinegarLoft$Barrel" "age" "D") (by decide +kernel)) (fun _ h9 => h9) rfl (by decide +kernel) rfl rfl (Nat.le_of_ble_eq_true rfl) dX0_spendYear_79 (fun H locs hP hD hS => ?_)
    have hP : va_P D vwCl [(a, .inr (0, [.int w, .int z, .double be, .double (FP.dadd ag 4607182418800017408), .double (soA ac (thick su li be)), .double (soS ac (thick su li be))]))] H := hP
    have hD : va_D A [(a, .inr (0, [.int w, .int z, .double be, .double (FP.dadd ag 4607182418800017408), .double (soA ac (thick su li be)), .double (soS ac (thick su li be))]))] := hD
    refine lv_dload hx hb dX0_spendYear_82 (lv_at hl 1 rfl) ?_
    have hP : va_P D vwCl ([(a, .inr (0, [.int w, .int z, .double (FP.dsub li (losv w li dr)), .double (FP.dadd ag 4607182418800017408), .double (soA ac (thick su li (FP.dsub li (losv w li dr)))), .double (soS ac (thick su li (FP.dsub li (losv w li dr))))]))]) H := by rw [hbe]; exact hP
    have hD : va_D A ([(a, .inr (0, [.int w, .int z, .double (FP.dsub li (losv w li dr)), .double (FP.dadd ag 4607182418800017408), .double (soA ac (thick su li (FP.dsub li (losv w li dr)))), .double (soS ac (thick su li (FP.dsub li (losv w li dr))))]))]) := by rw [hbe]; exact hD
    exact W.dret hx hb hr (fun t ht hW => ⟨⟨_, (), rfl, rfl, by rw [ht]; exact hP, va_K.moved hW.alike hK, hD⟩, hS.F ht⟩) hS.2.2 dX0_spendYear_84
  · refine lv_ldc2d hx hb hown (hts (.constantDouble RX0 48 4634626229029306368) (by decide +kernel)) dX0_spendYear_57 ?_
    refine lv_goto (tgt := 65) hx hb dX0_spendYear_60 (by decide) ?_
    refine kd_eq (show 4634626229029306368 = thick su li be from by unfold thick; rw [if_pos c53]) ?_
    refine va_put (D := D) (ci := 0) (v := .double (thick su li be)) (ty := .double) (C := RX0) (T := TX0) (N := 6) hx hb hts (by decide +kernel) tyX0 tyX0_ok nmX0 hown hK hP hD hS (0) rfl rfl 5 (by decide) (hts (.fieldLink RX0 26 "VinegarLoft$Barrel" "sugar" "D") (by decide +kernel)) (fun _ h9 => h9) rfl (by decide +kernel) rfl rfl (Nat.le_of_ble_eq_true rfl) dX0_spendYear_65 (fun H locs hP hD hS => ?_)
    have hP : va_P D vwCl [(a, .inr (0, [.int w, .int z, .double be, .double ag, .double ac, .double (thick su li be)]))] H := hP
    have hD : va_D A [(a, .inr (0, [.int w, .int z, .double be, .double ag, .double ac, .double (thick su li be)]))] := hD
    refine lv_aload_n hx hb dX0_spendYear_68 rfl (lv_at hl 3 rfl) ?_
    have y8 : sook ac (thick su li be) := by rw [← hbe]; exact y8
    refine kc_v (w1 := []) (w3 := []) (va_runV (As := []) (rest := []) ⟨hx, hb, hml, hown, hts⟩ (metX0_sour l D H.size a w z be ag ac (thick su li be) y8) (cwV 0 hts gX0_spendYear_X0_sour rfl rfl rfl (by decide +kernel) ⟨Nat.le_of_ble_eq_true rfl, Nat.le_of_ble_eq_true rfl⟩) (pmV 0 0 RX0 TX0 6 rfl rfl hP (hK.sub [] rfl) hD) rfl rfl hl.1 rfl (lv_room (Nat.le_of_ble_eq_true rfl)) dX0_spendYear_69 ⟨Nat.le_of_ble_eq_true rfl, Nat.le_of_ble_eq_true rfl⟩) hP hD hS hA (fun H locs hP hD hS => ?_)
    have hP : va_P D vwCl [(a, .inr (0, [.int w, .int z, .double be, .double ag, .double (soA ac (thick su li be)), .double (soS ac (thick su li be))]))] H := hP
    have hD : va_D A [(a, .inr (0, [.int w, .int z, .double be, .double ag, .double (soA ac (thick su li be)), .double (soS ac (thick su li be))]))] := hD
    refine lv_aload_n hx hb dX0_spendYear_72 rfl (lv_at hl 3 rfl) ?_
    refine lv_aload_n hx hb dX0_spendYear_73 rfl (lv_at hl 3 rfl) ?_
    refine va_get (D := D) (ci := 0) (v := .double ag) (C := RX0) (T := TX0) (N := 6) hx hb hts (by decide +kernel) hown hK hP (0) rfl rfl 3 (by decide) (hts (.fieldLink RX0 20 "VinegarLoft$Barrel" "age" "D") (by decide +kernel)) (fun _ h9 => h9) rfl dX0_spendYear_74 ?_
    refine kd_1 hx hb dX0_spendYear_77 ?_
    refine lv_dadd hx hb dX0_spendYear_78 y9 ?_
    refine va_put (D := D) (ci := 0) (v := .double (FP.dadd ag 4607182418800017408)) (ty := .double) (C := RX0) (T := TX0) (N := 6) hx hb hts (by decide +kernel) tyX0 tyX0_ok nmX0 hown hK hP hD hS (0) rfl rfl 3 (by decide) (hts (.fieldLink RX0 20 "VinegarLoft$Barrel" "age" "D") (by decide +kernel)) (fun _ h9 => h9) rfl (by decide +kernel) rfl rfl (Nat.le_of_ble_eq_true rfl) dX0_spendYear_79 (fun H locs hP hD hS => ?_)
    have hP : va_P D vwCl [(a, .inr (0, [.int w, .int z, .double be, .double (FP.dadd ag 4607182418800017408), .double (soA ac (thick su li be)), .double (soS ac (thick su li be))]))] H := hP
    have hD : va_D A [(a, .inr (0, [.int w, .int z, .double be, .double (FP.dadd ag 4607182418800017408), .double (soA ac (thick su li be)), .double (soS ac (thick su li be))]))] := hD
    refine lv_dload hx hb dX0_spendYear_82 (lv_at hl 1 rfl) ?_
    have hP : va_P D vwCl ([(a, .inr (0, [.int w, .int z, .double (FP.dsub li (losv w li dr)), .double (FP.dadd ag 4607182418800017408), .double (soA ac (thick su li (FP.dsub li (losv w li dr)))), .double (soS ac (thick su li (FP.dsub li (losv w li dr))))]))]) H := by rw [hbe]; exact hP
    have hD : va_D A ([(a, .inr (0, [.int w, .int z, .double (FP.dsub li (losv w li dr)), .double (FP.dadd ag 4607182418800017408), .double (soA ac (thick su li (FP.dsub li (losv w li dr)))), .double (soS ac (thick su li (FP.dsub li (losv w li dr))))]))]) := by rw [hbe]; exact hD
    exact W.dret hx hb hr (fun t ht hW => ⟨⟨_, (), rfl, rfl, by rw [ht]; exact hP, va_K.moved hW.alike hK, hD⟩, hS.F ht⟩) hS.2.2 dX0_spendYear_84
set_option maxHeartbeats 4000000 in
set_option maxRecDepth 100000 in
/-- taste() -/
theorem metX0_taste (l : Launch) (D : va_G) (a : Nat) (w z : Int32) (li ag ac su : UInt64) (h0 : FP.dcmp li 0 ≠ none) (ht : FP.dcmp li 0 = some .gt → tasok ag ac su) : Met l yX0_taste wsX0_taste { frames := 1, cells := 0, slots := 0, locals := 20 } (Pr D [] [.ref a] ([(a, .inr (0, [.int w, .int z, .double li, .double ag, .double ac, .double su]))])) (vp_Sd (fun r : UInt64 => r = tasv li ag ac su)) 0 0 (fun _ => False) := by
  refine Met.ofW (cc := cX0_taste) (maxL := 5) (ret := (some .double)) (by decide) rfl ?_
  intro p e s m args below meth c s₁ B hml hv
  obtain ⟨rfl, hP, hK⟩ := hv
  have hx := B.exec
  have hb := B.bytes
  have hr := B.returns
  have hts := atoms_spec (ws := wsX0_taste) B.pre
  have hown : s.vm.findClass RX0 = some m.cls := findClass_of_methodNamed B.named
  have hlocks := B.notSynchronized
  have hl := lv_entry ([.ref a]) (n := 5) (Nat.le_of_ble_eq_true rfl)
  rw [lg_entry_eq]
  generalize (lg_sl ([.ref a]) ++ List.replicate (5 - (lg_sl ([.ref a])).length) Slot.unset).toArray = ls at hl ⊢
  have hl : lv_has ls 5 [(0, .ref a)] := hl
  refine lv_aload_n hx hb dX0_taste_0 rfl (lv_at hl 0 rfl) ?_
  refine kr_i (W.runV (As := []) (rest := []) ⟨hx, hb, hml, hown, hts⟩ (metX0_isEmpty l D a w z li ag ac su h0) (cwV 0 hts gX0_taste_X0_isEmpty rfl rfl rfl (by decide +kernel) ⟨Nat.le_of_ble_eq_true rfl, Nat.le_of_ble_eq_true rfl⟩) (prV 0 0 RX0 TX0 6 rfl rfl hP (hK.sub [] rfl)) rfl rfl hl.1 rfl (lv_room (Nat.le_of_ble_eq_true rfl)) dX0_taste_1 ⟨Nat.le_of_ble_eq_true rfl, Nat.le_of_ble_eq_true rfl⟩) ?_
  refine lv_if_eq (tgt := 9) hx hb dX0_taste_4 (by decide) (fun c4 => ?_) (fun c4 => ?_)
  · have c0 : FP.dcmp li 0 = some .gt := Classical.byContradiction fun h9 => by unfold emp at c4; rw [if_neg h9] at c4; exact absurd c4 (by decide)
    obtain ⟨t1, t2, t3, t4, t5, t6, t7⟩ := ht c0
    refine lv_aload_n hx hb dX0_taste_9 rfl (lv_at hl 0 rfl) ?_
    refine va_get (D := D) (ci := 0) (v := .double ac) (C := RX0) (T := TX0) (N := 6) hx hb hts (by decide +kernel) hown hK hP (0) rfl rfl 4 (by decide) (hts (.fieldLink RX0 23 "VinegarLoft$Barrel" "acid" "D") (by decide +kernel)) (fun _ h9 => h9) rfl dX0_taste_10 ?_
    refine lv_ldc2d hx hb hown (hts (.constantDouble RX0 65 4618441417868443648) (by decide +kernel)) dX0_taste_13 ?_
    refine lv_dsub hx hb dX0_taste_16 t1 ?_
    refine lv_dstore_n (lv' := [(1, .double (FP.dsub ac 4618441417868443648)), (0, .ref a)]) hx hb dX0_taste_17 rfl hl (by decide) rfl (fun ls hl => ?_)
    refine lv_dload_n hx hb dX0_taste_18 rfl (lv_at hl 0 rfl) ?_
    refine kd_0 hx hb dX0_taste_19 ?_
    refine kd_ge (tgt := 29) hx hb dX0_taste_20 dX0_taste_21 (by decide) t2 (fun c20 => ?_) (fun c20 => ?_)
    · refine lv_dload_n hx hb dX0_taste_29 rfl (lv_at hl 0 rfl) ?_
      refine kd_eq (show (FP.dsub ac 4618441417868443648) = absv (FP.dsub ac 4618441417868443648) from by unfold absv; rw [if_neg c20]) ?_
      refine lv_dstore_n (lv' := [(3, .double (absv (FP.dsub ac 4618441417868443648))), (1, .double (FP.dsub ac 4618441417868443648)), (0, .ref a)]) hx hb dX0_taste_30 rfl hl (by decide) rfl (fun ls hl => ?_)
      refine lv_ldc2d hx hb hown (hts (.constantDouble RX0 67 4602678819172646912) (by decide +kernel)) dX0_taste_31 ?_
      refine lv_aload_n hx hb dX0_taste_34 rfl (lv_at hl 2 rfl) ?_
      refine va_get (D := D) (ci := 0) (v := .double ag) (C := RX0) (T := TX0) (N := 6) hx hb hts (by decide +kernel) hown hK hP (0) rfl rfl 3 (by decide) (hts (.fieldLink RX0 20 "VinegarLoft$Barrel" "age" "D") (by decide +kernel)) (fun _ h9 => h9) rfl dX0_taste_35 ?_
      refine lv_dmul hx hb dX0_taste_38 t3 ?_
      refine lv_ldc2d hx hb hown (hts (.constantDouble RX0 59 4605380978949069210) (by decide +kernel)) dX0_taste_39 ?_
      refine lv_aload_n hx hb dX0_taste_42 rfl (lv_at hl 2 rfl) ?_
      refine va_get (D := D) (ci := 0) (v := .double su) (C := RX0) (T := TX0) (N := 6) hx hb hts (by decide +kernel) hown hK hP (0) rfl rfl 5 (by decide) (hts (.fieldLink RX0 26 "VinegarLoft$Barrel" "sugar" "D") (by decide +kernel)) (fun _ h9 => h9) rfl dX0_taste_43 ?_
      refine lv_dmul hx hb dX0_taste_46 t4 ?_
      refine lv_dadd hx hb dX0_taste_47 t5 ?_
      refine lv_ldc2d hx hb hown (hts (.constantDouble RX0 69 4613937818241073152) (by decide +kernel)) dX0_taste_48 ?_
      refine lv_dload_n hx hb dX0_taste_51 rfl (lv_at hl 0 rfl) ?_
      refine lv_dmul hx hb dX0_taste_52 t6 ?_
      refine lv_dsub hx hb dX0_taste_53 t7 ?_
      exact W.dret hx hb hr (fun t ht hW => ⟨_, rfl, by unfold tasv; rw [if_pos c0], ht⟩) (fun q hq => absurd hq List.not_mem_nil) dX0_taste_54
    · refine lv_dload_n hx hb dX0_taste_24 rfl (lv_at hl 0 rfl) ?_
      refine lv_dneg hx hb dX0_taste_25 ?_
      refine lv_goto (tgt := 30) hx hb dX0_taste_26 (by decide) ?_
      refine kd_eq (show (FP.dneg (FP.dsub ac 4618441417868443648)) = absv (FP.dsub ac 4618441417868443648) from by unfold absv; rw [if_pos c20]) ?_
      refine lv_dstore_n (lv' := [(3, .double (absv (FP.dsub ac 4618441417868443648))), (1, .double (FP.dsub ac 4618441417868443648)), (0, .ref a)]) hx hb dX0_taste_30 rfl hl (by decide) rfl (fun ls hl => ?_)
      refine lv_ldc2d hx hb hown (hts (.constantDouble RX0 67 4602678819172646912) (by decide +kernel)) dX0_taste_31 ?_
      refine lv_aload_n hx hb dX0_taste_34 rfl (lv_at hl 2 rfl) ?_
      refine va_get (D := D) (ci := 0) (v := .double ag) (C := RX0) (T := TX0) (N := 6) hx hb hts (by decide +kernel) hown hK hP (0) rfl rfl 3 (by decide) (hts (.fieldLink RX0 20 "VinegarLoft$Barrel" "age" "D") (by decide +kernel)) (fun _ h9 => h9) rfl dX0_taste_35 ?_
      refine lv_dmul hx hb dX0_taste_38 t3 ?_
      refine lv_ldc2d hx hb hown (hts (.constantDouble RX0 59 4605380978949069210) (by decide +kernel)) dX0_taste_39 ?_
      refine lv_aload_n hx hb dX0_taste_42 rfl (lv_at hl 2 rfl) ?_
      refine va_get (D := D) (ci := 0) (v := .double su) (C := RX0) (T := TX0) (N := 6) hx hb hts (by decide +kernel) hown hK hP (0) rfl rfl 5 (by decide) (hts (.fieldLink RX0 26 "VinegarLoft$Barrel" "sugar" "D") (by decide +kernel)) (fun _ h9 => h9) rfl dX0_taste_43 ?_
      refine lv_dmul hx hb dX0_taste_46 t4 ?_
      refine lv_dadd hx hb dX0_taste_47 t5 ?_
      refine lv_ldc2d hx hb hown (hts (.constantDouble RX0 69 4613937818241073152) (by decide +kernel)) dX0_taste_48 ?_
      refine lv_dload_n hx hb dX0_taste_51 rfl (lv_at hl 0 rfl) ?_
      refine lv_dmul hx hb dX0_taste_52 t6 ?_
      refine lv_dsub hx hb dX0_taste_53 t7 ?_
      exact W.dret hx hb hr (fun t ht hW => ⟨_, rfl, by unfold tasv; rw [if_pos c0], ht⟩) (fun q hq => absurd hq List.not_mem_nil) dX0_taste_54
  · refine kd_0 hx hb dX0_taste_7 ?_
    exact W.dret hx hb hr (fun t ht hW => ⟨_, rfl, by unfold tasv; rw [if_neg (fun h9 => by unfold emp at c4; rw [if_pos h9] at c4; exact c4 rfl)], ht⟩) (fun q hq => absurd hq List.not_mem_nil) dX0_taste_8
set_option maxHeartbeats 4000000 in
set_option maxRecDepth 100000 in
/-- copyFrom(other) -/
theorem metX0_copyFrom (l : Launch) (D : va_G) (sz : Nat) (a : Nat) (w z : Int32) (li ag ac su : UInt64) (b : Nat) (w2 z2 : Int32) (li2 ag2 ac2 su2 : UInt64)  : Met l yX0_copyFrom wsX0_copyFrom { frames := 0, cells := 0, slots := 0, locals := 0 } (Pm D [] [.ref a, .ref b] ([(a, .inr (0, [.int w, .int z, .double li, .double ag, .double ac, .double su])), (b, .inr (0, [.int w2, .int z2, .double li2, .double ag2, .double ac2, .double su2]))]) sz) (va_Qv (fun (_ : Unit) => True) (Bm D [] (va_A ([(a, .inr (0, [.int w, .int z, .double li, .double ag, .double ac, .double su])), (b, .inr (0, [.int w2, .int z2, .double li2, .double ag2, .double ac2, .double su2]))]) sz) ([(a, .inr (0, [.int w2, .int z2, .double li2, .double ag2, .double ac2, .double su2])), (b, .inr (0, [.int w2, .int z2, .double li2, .double ag2, .double ac2, .double su2]))])) (va_A ([(a, .inr (0, [.int w, .int z, .double li, .double ag, .double ac, .double su])), (b, .inr (0, [.int w2, .int z2, .double li2, .double ag2, .double ac2, .double su2]))]) sz)) 0 0 (va_A ([(a, .inr (0, [.int w, .int z, .double li, .double ag, .double ac, .double su])), (b, .inr (0, [.int w2, .int z2, .double li2, .double ag2, .double ac2, .double su2]))]) sz) := by
  refine Met.ofW (cc := cX0_copyFrom) (maxL := 2) (ret := none) (by decide) rfl ?_
  intro p e s m args below meth c s₁ B hml hv
  obtain ⟨rfl, hsz, hP, hK, hD0⟩ := hv
  have hx := B.exec
  have hb := B.bytes
  have hr := B.returns
  have hts := atoms_spec (ws := wsX0_copyFrom) B.pre
  have hown : s.vm.findClass RX0 = some m.cls := findClass_of_methodNamed B.named
  have hlocks := B.notSynchronized
  subst hsz
  have hD := hD0.self (sz := s.heap.size)
  generalize hAe : va_A ([(a, .inr (0, [.int w, .int z, .double li, .double ag, .double ac, .double su])), (b, .inr (0, [.int w2, .int z2, .double li2, .double ag2, .double ac2, .double su2]))]) s.heap.size = A at hD ⊢
  have hA : ∀ q : Nat, s.heap.size ≤ q → A q := fun q h => by rw [← hAe]; exact Or.inr h
  refine kW_H (fun H hH => ?_)
  have hP : va_P D vwCl ([(a, .inr (0, [.int w, .int z, .double li, .double ag, .double ac, .double su])), (b, .inr (0, [.int w2, .int z2, .double li2, .double ag2, .double ac2, .double su2]))]) H := by rw [hH]; exact hP
  have hS : va_S A s.heap H [] := by rw [hH]; exact va_S.rf
  have hl := lv_entry ([.ref a, .ref b]) (n := 2) (Nat.le_of_ble_eq_true rfl)
  rw [lg_entry_eq]
  generalize (lg_sl ([.ref a, .ref b]) ++ List.replicate (2 - (lg_sl ([.ref a, .ref b])).length) Slot.unset).toArray = ls at hl ⊢
  have hl : lv_has ls 2 [(0, .ref a), (1, .ref b)] := hl
  refine lv_aload_n hx hb dX0_copyFrom_0 rfl (lv_at hl 0 rfl) ?_
  refine lv_aload_n hx hb dX0_copyFrom_1 rfl (lv_at hl 1 rfl) ?_
  refine va_get (D := D) (ci := 0) (v := .int w2) (C := RX0) (T := TX0) (N := 6) hx hb hts (by decide +kernel) hown hK hP (1) rfl rfl 0 (by decide) (hts (.fieldLink RX0 7 "VinegarLoft$Barrel" "wood" "I") (by decide +kernel)) (fun _ h9 => h9) rfl dX0_copyFrom_2 ?_
  refine va_put (D := D) (ci := 0) (v := .int w2) (ty := .int) (C := RX0) (T := TX0) (N := 6) hx hb hts (by decide +kernel) tyX0 tyX0_ok nmX0 hown hK hP hD hS (0) rfl rfl 0 (by decide) (hts (.fieldLink RX0 7 "VinegarLoft$Barrel" "wood" "I") (by decide +kernel)) (fun _ h9 => h9) rfl (by decide +kernel) rfl rfl (Nat.le_of_ble_eq_true rfl) dX0_copyFrom_5 (fun H locs hP hD hS => ?_)
  have hP : va_P D vwCl [(a, .inr (0, [.int w2, .int z, .double li, .double ag, .double ac, .double su])), (b, .inr (0, [.int w2, .int z2, .double li2, .double ag2, .double ac2, .double su2]))] H := hP
  have hD : va_D A [(a, .inr (0, [.int w2, .int z, .double li, .double ag, .double ac, .double su])), (b, .inr (0, [.int w2, .int z2, .double li2, .double ag2, .double ac2, .double su2]))] := hD
  refine lv_aload_n hx hb dX0_copyFrom_8 rfl (lv_at hl 0 rfl) ?_
  refine lv_aload_n hx hb dX0_copyFrom_9 rfl (lv_at hl 1 rfl) ?_
  refine va_get (D := D) (ci := 0) (v := .int z2) (C := RX0) (T := TX0) (N := 6) hx hb hts (by decide +kernel) hown hK hP (1) rfl rfl 1 (by decide) (hts (.fieldLink RX0 13 "VinegarLoft$Barrel" "size" "I") (by decide +kernel)) (fun _ h9 => h9) rfl dX0_copyFrom_10 ?_
  refine va_put (D := D) (ci := 0) (v := .int z2) (ty := .int) (C := RX0) (T := TX0) (N := 6) hx hb hts (by decide +kernel) tyX0 tyX0_ok nmX0 hown hK hP hD hS (0) rfl rfl 1 (by decide) (hts (.fieldLink RX0 13 "VinegarLoft$Barrel" "size" "I") (by decide +kernel)) (fun _ h9 => h9) rfl (by decide +kernel) rfl rfl (Nat.le_of_ble_eq_true rfl) dX0_copyFrom_13 (fun H locs hP hD hS => ?_)
  have hP : va_P D vwCl [(a, .inr (0, [.int w2, .int z2, .double li, .double ag, .double ac, .double su])), (b, .inr (0, [.int w2, .int z2, .double li2, .double ag2, .double ac2, .double su2]))] H := hP
  have hD : va_D A [(a, .inr (0, [.int w2, .int z2, .double li, .double ag, .double ac, .double su])), (b, .inr (0, [.int w2, .int z2, .double li2, .double ag2, .double ac2, .double su2]))] := hD
  refine lv_aload_n hx hb dX0_copyFrom_16 rfl (lv_at hl 0 rfl) ?_
  refine lv_aload_n hx hb dX0_copyFrom_17 rfl (lv_at hl 1 rfl) ?_
  refine va_get (D := D) (ci := 0) (v := .double li2) (C := RX0) (T := TX0) (N := 6) hx hb hts (by decide +kernel) hown hK hP (1) rfl rfl 2 (by decide) (hts (.fieldLink RX0 16 "VinegarLoft$Barrel" "litres" "D") (by decide +kernel)) (fun _ h9 => h9) rfl dX0_copyFrom_18 ?_
  refine va_put (D := D) (ci := 0) (v := .double li2) (ty := .double) (C := RX0) (T := TX0) (N := 6) hx hb hts (by decide +kernel) tyX0 tyX0_ok nmX0 hown hK hP hD hS (0) rfl rfl 2 (by decide) (hts (.fieldLink RX0 16 "VinegarLoft$Barrel" "litres" "D") (by decide +kernel)) (fun _ h9 => h9) rfl (by decide +kernel) rfl rfl (Nat.le_of_ble_eq_true rfl) dX0_copyFrom_21 (fun H locs hP hD hS => ?_)
  have hP : va_P D vwCl [(a, .inr (0, [.int w2, .int z2, .double li2, .double ag, .double ac, .double su])), (b, .inr (0, [.int w2, .int z2, .double li2, .double ag2, .double ac2, .double su2]))] H := hP
  have hD : va_D A [(a, .inr (0, [.int w2, .int z2, .double li2, .double ag, .double ac, .double su])), (b, .inr (0, [.int w2, .int z2, .double li2, .double ag2, .double ac2, .double su2]))] := hD
  refine lv_aload_n hx hb dX0_copyFrom_24 rfl (lv_at hl 0 rfl) ?_
  refine lv_aload_n hx hb dX0_copyFrom_25 rfl (lv_at hl 1 rfl) ?_
  refine va_get (D := D) (ci := 0) (v := .double ag2) (C := RX0) (T := TX0) (N := 6) hx hb hts (by decide +kernel) hown hK hP (1) rfl rfl 3 (by decide) (hts (.fieldLink RX0 20 "VinegarLoft$Barrel" "age" "D") (by decide +kernel)) (fun _ h9 => h9) rfl dX0_copyFrom_26 ?_
  refine va_put (D := D) (ci := 0) (v := .double ag2) (ty := .double) (C := RX0) (T := TX0) (N := 6) hx hb hts (by decide +kernel) tyX0 tyX0_ok nmX0 hown hK hP hD hS (0) rfl rfl 3 (by decide) (hts (.fieldLink RX0 20 "VinegarLoft$Barrel" "age" "D") (by decide +kernel)) (fun _ h9 => h9) rfl (by decide +kernel) rfl rfl (Nat.le_of_ble_eq_true rfl) dX0_copyFrom_29 (fun H locs hP hD hS => ?_)
  have hP : va_P D vwCl [(a, .inr (0, [.int w2, .int z2, .double li2, .double ag2, .double ac, .double su])), (b, .inr (0, [.int w2, .int z2, .double li2, .double ag2, .double ac2, .double su2]))] H := hP
  have hD : va_D A [(a, .inr (0, [.int w2, .int z2, .double li2, .double ag2, .double ac, .double su])), (b, .inr (0, [.int w2, .int z2, .double li2, .double ag2, .double ac2, .double su2]))] := hD
  refine lv_aload_n hx hb dX0_copyFrom_32 rfl (lv_at hl 0 rfl) ?_
  refine lv_aload_n hx hb dX0_copyFrom_33 rfl (lv_at hl 1 rfl) ?_
  refine va_get (D := D) (ci := 0) (v := .double ac2) (C := RX0) (T := TX0) (N := 6) hx hb hts (by decide +kernel) hown hK hP (1) rfl rfl 4 (by decide) (hts (.fieldLink RX0 23 "VinegarLoft$Barrel" "acid" "D") (by decide +kernel)) (fun _ h9 => h9) rfl dX0_copyFrom_34 ?_
  refine va_put (D := D) (ci := 0) (v := .double ac2) (ty := .double) (C := RX0) (T := TX0) (N := 6) hx hb hts (by decide +kernel) tyX0 tyX0_ok nmX0 hown hK hP hD hS (0) rfl rfl 4 (by decide) (hts (.fieldLink RX0 23 "VinegarLoft$Barrel" "acid" "D") (by decide +kernel)) (fun _ h9 => h9) rfl (by decide +kernel) rfl rfl (Nat.le_of_ble_eq_true rfl) dX0_copyFrom_37 (fun H locs hP hD hS => ?_)
  have hP : va_P D vwCl [(a, .inr (0, [.int w2, .int z2, .double li2, .double ag2, .double ac2, .double su])), (b, .inr (0, [.int w2, .int z2, .double li2, .double ag2, .double ac2, .double su2]))] H := hP
  have hD : va_D A [(a, .inr (0, [.int w2, .int z2, .double li2, .double ag2, .double ac2, .double su])), (b, .inr (0, [.int w2, .int z2, .double li2, .double ag2, .double ac2, .double su2]))] := hD
  refine lv_aload_n hx hb dX0_copyFrom_40 rfl (lv_at hl 0 rfl) ?_
  refine lv_aload_n hx hb dX0_copyFrom_41 rfl (lv_at hl 1 rfl) ?_
  refine va_get (D := D) (ci := 0) (v := .double su2) (C := RX0) (T := TX0) (N := 6) hx hb hts (by decide +kernel) hown hK hP (1) rfl rfl 5 (by decide) (hts (.fieldLink RX0 26 "VinegarLoft$Barrel" "sugar" "D") (by decide +kernel)) (fun _ h9 => h9) rfl dX0_copyFrom_42 ?_
  refine va_put (D := D) (ci := 0) (v := .double su2) (ty := .double) (C := RX0) (T := TX0) (N := 6) hx hb hts (by decide +kernel) tyX0 tyX0_ok nmX0 hown hK hP hD hS (0) rfl rfl 5 (by decide) (hts (.fieldLink RX0 26 "VinegarLoft$Barrel" "sugar" "D") (by decide +kernel)) (fun _ h9 => h9) rfl (by decide +kernel) rfl rfl (Nat.le_of_ble_eq_true rfl) dX0_copyFrom_45 (fun H locs hP hD hS => ?_)
  have hP : va_P D vwCl [(a, .inr (0, [.int w2, .int z2, .double li2, .double ag2, .double ac2, .double su2])), (b, .inr (0, [.int w2, .int z2, .double li2, .double ag2, .double ac2, .double su2]))] H := hP
  have hD : va_D A [(a, .inr (0, [.int w2, .int z2, .double li2, .double ag2, .double ac2, .double su2])), (b, .inr (0, [.int w2, .int z2, .double li2, .double ag2, .double ac2, .double su2]))] := hD
  exact W.vret hx hb hr (fun t ht hW => ⟨⟨(), rfl, trivial, by rw [ht]; exact hP, va_K.moved hW.alike hK, hD⟩, hS.F ht⟩) hS.2.2 dX0_copyFrom_48
