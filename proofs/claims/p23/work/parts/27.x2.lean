/-! VinegarLoft: its methods (laid by wip/p23/prog/x2.py) -/
set_option maxHeartbeats 4000000 in
set_option maxRecDepth 100000 in
theorem metX2_barrels (l : Launch) (D : va_G) (x r t d : Nat) (yg : Int32) (la : Nat) (bs : Nat → Nat) (cA cI : ClassId) (n : Nat) (hn : n ≤ 8) (wm df : Int32) (q : UInt64) (wd zs : Nat → Int32) (h : Nat → UInt64) (w3 : va_W)  : Met l yX2_barrels wsX2_barrels { frames := 0, cells := 0, slots := 0, locals := 0 } (Pr D [(cA, .object "VinegarLoft$Barrel"), (cI, .int)] [.ref x] ([(x, EX r t d yg)] ++ (rowW r la bs cA (nI n) wm df q wd zs h ++ w3))) (vp_Si (fun r : Int32 => r = nI n)) 0 0 (fun _ => False) := by
  refine Met.ofW (cc := cX2_barrels) (maxL := 1) (ret := (some .int)) (by decide) rfl ?_
  intro p e s m args below meth c s₁ B hml hv
  obtain ⟨rfl, hP, hK⟩ := hv
  have hx := B.exec
  have hb := B.bytes
  have hr := B.returns
  have hts := atoms_spec (ws := wsX2_barrels) B.pre
  have hown : s.vm.findClass RX2 = some m.cls := findClass_of_methodNamed B.named
  have hlocks := B.notSynchronized
  have hl := lv_entry ([.ref x]) (n := 1) (Nat.le_of_ble_eq_true rfl)
  rw [lg_entry_eq]
  generalize (lg_sl ([.ref x]) ++ List.replicate (1 - (lg_sl ([.ref x])).length) Slot.unset).toArray = ls at hl ⊢
  have hl : lv_has ls 1 [(0, .ref x)] := hl
  refine lv_aload_n hx hb dX2_barrels_0 rfl (lv_at hl 0 rfl) ?_
  refine va_get (D := D) (ci := 2) (v := .ref r) (C := RX2) (T := TX2) (N := 4) hx hb hts (by decide +kernel) hown hK hP (0) rfl rfl 0 (by decide) (hts (.fieldLink RX2 10 "VinegarLoft" "row" "LVinegarLoft$Row;") (by decide +kernel)) (fun _ h9 => h9) rfl dX2_barrels_1 ?_
  refine va_get (D := D) (ci := 1) (v := .int (nI n)) (C := RX1) (T := TX1) (N := 5) hx hb hts (by decide +kernel) hown hK hP (1) rfl rfl 1 (by decide) (hts (.fieldLink RX2 100 "VinegarLoft$Row" "count" "I") (by decide +kernel)) (fun _ h9 => h9) rfl dX2_barrels_4 ?_
  exact W.iret hx hb hr (fun t ht hW => ⟨_, rfl, rfl, ht⟩) (fun q hq => absurd hq List.not_mem_nil) dX2_barrels_7
set_option maxHeartbeats 4000000 in
set_option maxRecDepth 100000 in
theorem metX2_years (l : Launch) (D : va_G) (x r t d : Nat) (yg : Int32) (la : Nat) (bs : Nat → Nat) (cA cI : ClassId) (n : Nat) (hn : n ≤ 8) (wm df : Int32) (q : UInt64) (wd zs : Nat → Int32) (h : Nat → UInt64) (w3 : va_W)  : Met l yX2_years wsX2_years { frames := 0, cells := 0, slots := 0, locals := 0 } (Pr D [(cA, .object "VinegarLoft$Barrel"), (cI, .int)] [.ref x] ([(x, EX r t d yg)] ++ (rowW r la bs cA (nI n) wm df q wd zs h ++ w3))) (vp_Si (fun r : Int32 => r = yg)) 0 0 (fun _ => False) := by
  refine Met.ofW (cc := cX2_years) (maxL := 1) (ret := (some .int)) (by decide) rfl ?_
  intro p e s m args below meth c s₁ B hml hv
  obtain ⟨rfl, hP, hK⟩ := hv
  have hx := B.exec
  have hb := B.bytes
  have hr := B.returns
  have hts := atoms_spec (ws := wsX2_years) B.pre
  have hown : s.vm.findClass RX2 = some m.cls := findClass_of_methodNamed B.named
  have hlocks := B.notSynchronized
  have hl := lv_entry ([.ref x]) (n := 1) (Nat.le_of_ble_eq_true rfl)
  rw [lg_entry_eq]
  generalize (lg_sl ([.ref x]) ++ List.replicate (1 - (lg_sl ([.ref x])).length) Slot.unset).toArray = ls at hl ⊢
  have hl : lv_has ls 1 [(0, .ref x)] := hl
  refine lv_aload_n hx hb dX2_years_0 rfl (lv_at hl 0 rfl) ?_
  refine va_get (D := D) (ci := 2) (v := .int yg) (C := RX2) (T := TX2) (N := 4) hx hb hts (by decide +kernel) hown hK hP (0) rfl rfl 3 (by decide) (hts (.fieldLink RX2 23 "VinegarLoft" "yearsGone" "I") (by decide +kernel)) (fun _ h9 => h9) rfl dX2_years_1 ?_
  exact W.iret hx hb hr (fun t ht hW => ⟨_, rfl, rfl, ht⟩) (fun q hq => absurd hq List.not_mem_nil) dX2_years_4
set_option maxHeartbeats 4000000 in
set_option maxRecDepth 100000 in
theorem metX2_oldest (l : Launch) (D : va_G) (x r t d : Nat) (yg : Int32) (la : Nat) (bs : Nat → Nat) (cA cI : ClassId) (n : Nat) (hn : n ≤ 8) (wm df : Int32) (q : UInt64) (wd zs : Nat → Int32) (h : Nat → UInt64) (w3 : va_W) (hN : NNr n h) : Met l yX2_oldest wsX2_oldest { frames := 2, cells := 0, slots := 0, locals := 44 } (Pr D [(cA, .object "VinegarLoft$Barrel"), (cI, .int)] [.ref x] ([(x, EX r t d yg)] ++ (rowW r la bs cA (nI n) wm df q wd zs h ++ w3))) (vp_Si (fun r : Int32 => r = encO (elO h n))) 0 0 (fun _ => False) := by
  refine Met.ofW (cc := cX2_oldest) (maxL := 1) (ret := (some .int)) (by decide) rfl ?_
  intro p e s m args below meth c s₁ B hml hv
  obtain ⟨rfl, hP, hK⟩ := hv
  have hx := B.exec
  have hb := B.bytes
  have hr := B.returns
  have hts := atoms_spec (ws := wsX2_oldest) B.pre
  have hown : s.vm.findClass RX2 = some m.cls := findClass_of_methodNamed B.named
  have hlocks := B.notSynchronized
  have hl := lv_entry ([.ref x]) (n := 1) (Nat.le_of_ble_eq_true rfl)
  rw [lg_entry_eq]
  generalize (lg_sl ([.ref x]) ++ List.replicate (1 - (lg_sl ([.ref x])).length) Slot.unset).toArray = ls at hl ⊢
  have hl : lv_has ls 1 [(0, .ref x)] := hl
  refine lv_aload_n hx hb dX2_oldest_0 rfl (lv_at hl 0 rfl) ?_
  refine va_get (D := D) (ci := 2) (v := .ref r) (C := RX2) (T := TX2) (N := 4) hx hb hts (by decide +kernel) hown hK hP (0) rfl rfl 0 (by decide) (hts (.fieldLink RX2 10 "VinegarLoft" "row" "LVinegarLoft$Row;") (by decide +kernel)) (fun _ h9 => h9) rfl dX2_oldest_1 ?_
  refine kr_i (W.runV (As := []) (rest := []) ⟨hx, hb, hml, hown, hts⟩ (metX1_eldest l D r la bs cA n hn wm df q wd zs h hN) (cwV 0 hts gX2_oldest_X1_eldest rfl rfl rfl (by decide +kernel) ⟨Nat.le_of_ble_eq_true rfl, Nat.le_of_ble_eq_true rfl⟩) (prV 1 0 RX1 TX1 5 rfl rfl (vj_mP hP) (hK.sub [0] rfl)) rfl rfl hl.1 rfl (lv_room (Nat.le_of_ble_eq_true rfl)) dX2_oldest_4 ⟨Nat.le_of_ble_eq_true rfl, Nat.le_of_ble_eq_true rfl⟩) ?_
  exact W.iret hx hb hr (fun t ht hW => ⟨_, rfl, rfl, ht⟩) (fun q hq => absurd hq List.not_mem_nil) dX2_oldest_7
set_option maxHeartbeats 4000000 in
set_option maxRecDepth 100000 in
theorem metX2_drawable (l : Launch) (D : va_G) (x r t d : Nat) (yg : Int32) (la : Nat) (bs : Nat → Nat) (cA cI : ClassId) (n : Nat) (hn : n ≤ 8) (wm df : Int32) (q : UInt64) (wd zs : Nat → Int32) (h : Nat → UInt64) (w3 : va_W) (hN : NNr n h) (hr9 : rdok h n q) : Met l yX2_drawable wsX2_drawable { frames := 3, cells := 0, slots := 0, locals := 68 } (Pr D [(cA, .object "VinegarLoft$Barrel"), (cI, .int)] [.ref x] ([(x, EX r t d yg)] ++ (rowW r la bs cA (nI n) wm df q wd zs h ++ w3))) (vp_Si (fun r : Int32 => r = rdv h n df q)) 0 0 (fun _ => False) := by
  refine Met.ofW (cc := cX2_drawable) (maxL := 1) (ret := (some .int)) (by decide) rfl ?_
  intro p e s m args below meth c s₁ B hml hv
  obtain ⟨rfl, hP, hK⟩ := hv
  have hx := B.exec
  have hb := B.bytes
  have hr := B.returns
  have hts := atoms_spec (ws := wsX2_drawable) B.pre
  have hown : s.vm.findClass RX2 = some m.cls := findClass_of_methodNamed B.named
  have hlocks := B.notSynchronized
  have hl := lv_entry ([.ref x]) (n := 1) (Nat.le_of_ble_eq_true rfl)
  rw [lg_entry_eq]
  generalize (lg_sl ([.ref x]) ++ List.replicate (1 - (lg_sl ([.ref x])).length) Slot.unset).toArray = ls at hl ⊢
  have hl : lv_has ls 1 [(0, .ref x)] := hl
  refine lv_aload_n hx hb dX2_drawable_0 rfl (lv_at hl 0 rfl) ?_
  refine va_get (D := D) (ci := 2) (v := .ref r) (C := RX2) (T := TX2) (N := 4) hx hb hts (by decide +kernel) hown hK hP (0) rfl rfl 0 (by decide) (hts (.fieldLink RX2 10 "VinegarLoft" "row" "LVinegarLoft$Row;") (by decide +kernel)) (fun _ h9 => h9) rfl dX2_drawable_1 ?_
  refine kr_i (W.runV (As := []) (rest := []) ⟨hx, hb, hml, hown, hts⟩ (metX1_bottlesReady l D r la bs cA n hn wm df q wd zs h hN hr9) (cwV 0 hts gX2_drawable_X1_bottlesReady rfl rfl rfl (by decide +kernel) ⟨Nat.le_of_ble_eq_true rfl, Nat.le_of_ble_eq_true rfl⟩) (prV 1 0 RX1 TX1 5 rfl rfl (vj_mP hP) (hK.sub [0] rfl)) rfl rfl hl.1 rfl (lv_room (Nat.le_of_ble_eq_true rfl)) dX2_drawable_4 ⟨Nat.le_of_ble_eq_true rfl, Nat.le_of_ble_eq_true rfl⟩) ?_
  exact W.iret hx hb hr (fun t ht hW => ⟨_, rfl, rfl, ht⟩) (fun q hq => absurd hq List.not_mem_nil) dX2_drawable_7
set_option maxHeartbeats 4000000 in
set_option maxRecDepth 100000 in
theorem metX2_meanAge (l : Launch) (D : va_G) (x r t d : Nat) (yg : Int32) (la : Nat) (bs : Nat → Nat) (cA cI : ClassId) (n : Nat) (hn : n ≤ 8) (wm df : Int32) (q : UInt64) (wd zs : Nat → Int32) (h : Nat → UInt64) (w3 : va_W) (hm : mnok 8 h n) : Met l yX2_meanAge wsX2_meanAge { frames := 1, cells := 0, slots := 0, locals := 23 } (Pr D [(cA, .object "VinegarLoft$Barrel"), (cI, .int)] [.ref x] ([(x, EX r t d yg)] ++ (rowW r la bs cA (nI n) wm df q wd zs h ++ w3))) (vp_Sd (fun r : UInt64 => r = mnv 8 h n)) 0 0 (fun _ => False) := by
  refine Met.ofW (cc := cX2_meanAge) (maxL := 3) (ret := (some .double)) (by decide) rfl ?_
  intro p e s m args below meth c s₁ B hml hv
  obtain ⟨rfl, hP, hK⟩ := hv
  have hx := B.exec
  have hb := B.bytes
  have hr := B.returns
  have hts := atoms_spec (ws := wsX2_meanAge) B.pre
  have hown : s.vm.findClass RX2 = some m.cls := findClass_of_methodNamed B.named
  have hlocks := B.notSynchronized
  have hl := lv_entry ([.ref x]) (n := 3) (Nat.le_of_ble_eq_true rfl)
  rw [lg_entry_eq]
  generalize (lg_sl ([.ref x]) ++ List.replicate (3 - (lg_sl ([.ref x])).length) Slot.unset).toArray = ls at hl ⊢
  have hl : lv_has ls 3 [(0, .ref x)] := hl
  obtain ⟨m1, m2, m3⟩ := hm
  refine lv_aload_n hx hb dX2_meanAge_0 rfl (lv_at hl 0 rfl) ?_
  refine va_get (D := D) (ci := 2) (v := .ref r) (C := RX2) (T := TX2) (N := 4) hx hb hts (by decide +kernel) hown hK hP (0) rfl rfl 0 (by decide) (hts (.fieldLink RX2 10 "VinegarLoft" "row" "LVinegarLoft$Row;") (by decide +kernel)) (fun _ h9 => h9) rfl dX2_meanAge_1 ?_
  refine kr_d (W.runV (As := []) (rest := []) ⟨hx, hb, hml, hown, hts⟩ (metX1_allLitres l D r la bs cA n hn wm df q wd zs h m1) (cwV 0 hts gX2_meanAge_X1_allLitres rfl rfl rfl (by decide +kernel) ⟨Nat.le_of_ble_eq_true rfl, Nat.le_of_ble_eq_true rfl⟩) (prV 1 0 RX1 TX1 5 rfl rfl (vj_mP hP) (hK.sub [0] rfl)) rfl rfl hl.1 rfl (lv_room (Nat.le_of_ble_eq_true rfl)) dX2_meanAge_4 ⟨Nat.le_of_ble_eq_true rfl, Nat.le_of_ble_eq_true rfl⟩) ?_
  refine lv_dstore_n (lv' := [(1, .double (suL h n)), (0, .ref x)]) hx hb dX2_meanAge_7 rfl hl (by decide) rfl (fun ls hl => ?_)
  refine lv_dload_n hx hb dX2_meanAge_8 rfl (lv_at hl 0 rfl) ?_
  refine kd_0 hx hb dX2_meanAge_9 ?_
  refine kd_le (tgt := 26) hx hb dX2_meanAge_10 dX2_meanAge_11 (by decide) m2 (fun c10 => ?_) (fun c10 => ?_)
  · refine kd_0 hx hb dX2_meanAge_26 ?_
    exact W.dret hx hb hr (fun t ht hW => ⟨_, rfl, by unfold mnv; rw [if_neg c10], ht⟩) (fun q hq => absurd hq List.not_mem_nil) dX2_meanAge_27
  · refine lv_aload_n hx hb dX2_meanAge_14 rfl (lv_at hl 1 rfl) ?_
    refine va_get (D := D) (ci := 2) (v := .ref r) (C := RX2) (T := TX2) (N := 4) hx hb hts (by decide +kernel) hown hK hP (0) rfl rfl 0 (by decide) (hts (.fieldLink RX2 10 "VinegarLoft" "row" "LVinegarLoft$Row;") (by decide +kernel)) (fun _ h9 => h9) rfl dX2_meanAge_15 ?_
    refine kr_d (W.runV (As := []) (rest := []) ⟨hx, hb, hml, hown, hts⟩ (metX1_litresTimesAge l D r la bs cA n hn wm df q wd zs h (m3 c10).1) (cwV 0 hts gX2_meanAge_X1_litresTimesAge rfl rfl rfl (by decide +kernel) ⟨Nat.le_of_ble_eq_true rfl, Nat.le_of_ble_eq_true rfl⟩) (prV 1 0 RX1 TX1 5 rfl rfl (vj_mP hP) (hK.sub [0] rfl)) rfl rfl hl.1 rfl (lv_room (Nat.le_of_ble_eq_true rfl)) dX2_meanAge_18 ⟨Nat.le_of_ble_eq_true rfl, Nat.le_of_ble_eq_true rfl⟩) ?_
    refine lv_dload_n hx hb dX2_meanAge_21 rfl (lv_at hl 0 rfl) ?_
    refine lv_ddiv hx hb dX2_meanAge_22 (m3 c10).2 ?_
    refine lv_goto (tgt := 27) hx hb dX2_meanAge_23 (by decide) ?_
    exact W.dret hx hb hr (fun t ht hW => ⟨_, rfl, by unfold mnv; rw [if_pos c10], ht⟩) (fun q hq => absurd hq List.not_mem_nil) dX2_meanAge_27
set_option maxHeartbeats 4000000 in
set_option maxRecDepth 100000 in
theorem metX2_meanSugar (l : Launch) (D : va_G) (x r t d : Nat) (yg : Int32) (la : Nat) (bs : Nat → Nat) (cA cI : ClassId) (n : Nat) (hn : n ≤ 8) (wm df : Int32) (q : UInt64) (wd zs : Nat → Int32) (h : Nat → UInt64) (w3 : va_W) (hm : mnok 24 h n) : Met l yX2_meanSugar wsX2_meanSugar { frames := 1, cells := 0, slots := 0, locals := 23 } (Pr D [(cA, .object "VinegarLoft$Barrel"), (cI, .int)] [.ref x] ([(x, EX r t d yg)] ++ (rowW r la bs cA (nI n) wm df q wd zs h ++ w3))) (vp_Sd (fun r : UInt64 => r = mnv 24 h n)) 0 0 (fun _ => False) := by
  refine Met.ofW (cc := cX2_meanSugar) (maxL := 3) (ret := (some .double)) (by decide) rfl ?_
  intro p e s m args below meth c s₁ B hml hv
  obtain ⟨rfl, hP, hK⟩ := hv
  have hx := B.exec
  have hb := B.bytes
  have hr := B.returns
  have hts := atoms_spec (ws := wsX2_meanSugar) B.pre
  have hown : s.vm.findClass RX2 = some m.cls := findClass_of_methodNamed B.named
  have hlocks := B.notSynchronized
  have hl := lv_entry ([.ref x]) (n := 3) (Nat.le_of_ble_eq_true rfl)
  rw [lg_entry_eq]
  generalize (lg_sl ([.ref x]) ++ List.replicate (3 - (lg_sl ([.ref x])).length) Slot.unset).toArray = ls at hl ⊢
  have hl : lv_has ls 3 [(0, .ref x)] := hl
  obtain ⟨m1, m2, m3⟩ := hm
  refine lv_aload_n hx hb dX2_meanSugar_0 rfl (lv_at hl 0 rfl) ?_
  refine va_get (D := D) (ci := 2) (v := .ref r) (C := RX2) (T := TX2) (N := 4) hx hb hts (by decide +kernel) hown hK hP (0) rfl rfl 0 (by decide) (hts (.fieldLink RX2 10 "VinegarLoft" "row" "LVinegarLoft$Row;") (by decide +kernel)) (fun _ h9 => h9) rfl dX2_meanSugar_1 ?_
  refine kr_d (W.runV (As := []) (rest := []) ⟨hx, hb, hml, hown, hts⟩ (metX1_allLitres l D r la bs cA n hn wm df q wd zs h m1) (cwV 0 hts gX2_meanSugar_X1_allLitres rfl rfl rfl (by decide +kernel) ⟨Nat.le_of_ble_eq_true rfl, Nat.le_of_ble_eq_true rfl⟩) (prV 1 0 RX1 TX1 5 rfl rfl (vj_mP hP) (hK.sub [0] rfl)) rfl rfl hl.1 rfl (lv_room (Nat.le_of_ble_eq_true rfl)) dX2_meanSugar_4 ⟨Nat.le_of_ble_eq_true rfl, Nat.le_of_ble_eq_true rfl⟩) ?_
  refine lv_dstore_n (lv' := [(1, .double (suL h n)), (0, .ref x)]) hx hb dX2_meanSugar_7 rfl hl (by decide) rfl (fun ls hl => ?_)
  refine lv_dload_n hx hb dX2_meanSugar_8 rfl (lv_at hl 0 rfl) ?_
  refine kd_0 hx hb dX2_meanSugar_9 ?_
  refine kd_le (tgt := 26) hx hb dX2_meanSugar_10 dX2_meanSugar_11 (by decide) m2 (fun c10 => ?_) (fun c10 => ?_)
  · refine kd_0 hx hb dX2_meanSugar_26 ?_
    exact W.dret hx hb hr (fun t ht hW => ⟨_, rfl, by unfold mnv; rw [if_neg c10], ht⟩) (fun q hq => absurd hq List.not_mem_nil) dX2_meanSugar_27
  · refine lv_aload_n hx hb dX2_meanSugar_14 rfl (lv_at hl 1 rfl) ?_
    refine va_get (D := D) (ci := 2) (v := .ref r) (C := RX2) (T := TX2) (N := 4) hx hb hts (by decide +kernel) hown hK hP (0) rfl rfl 0 (by decide) (hts (.fieldLink RX2 10 "VinegarLoft" "row" "LVinegarLoft$Row;") (by decide +kernel)) (fun _ h9 => h9) rfl dX2_meanSugar_15 ?_
    refine kr_d (W.runV (As := []) (rest := []) ⟨hx, hb, hml, hown, hts⟩ (metX1_litresTimesSugar l D r la bs cA n hn wm df q wd zs h (m3 c10).1) (cwV 0 hts gX2_meanSugar_X1_litresTimesSugar rfl rfl rfl (by decide +kernel) ⟨Nat.le_of_ble_eq_true rfl, Nat.le_of_ble_eq_true rfl⟩) (prV 1 0 RX1 TX1 5 rfl rfl (vj_mP hP) (hK.sub [0] rfl)) rfl rfl hl.1 rfl (lv_room (Nat.le_of_ble_eq_true rfl)) dX2_meanSugar_18 ⟨Nat.le_of_ble_eq_true rfl, Nat.le_of_ble_eq_true rfl⟩) ?_
    refine lv_dload_n hx hb dX2_meanSugar_21 rfl (lv_at hl 0 rfl) ?_
    refine lv_ddiv hx hb dX2_meanSugar_22 (m3 c10).2 ?_
    refine lv_goto (tgt := 27) hx hb dX2_meanSugar_23 (by decide) ?_
    exact W.dret hx hb hr (fun t ht hW => ⟨_, rfl, by unfold mnv; rw [if_pos c10], ht⟩) (fun q hq => absurd hq List.not_mem_nil) dX2_meanSugar_27
set_option maxHeartbeats 4000000 in
set_option maxRecDepth 100000 in
theorem metX2_kindAt (l : Launch) (D : va_G) (a : UInt64) (k1 : FP.dcmp a 4625759767262920704 ≠ none) (k2 : FP.dcmp a 4627730092099895296 ≠ none) : Met l yX2_kindAt wsX2_kindAt { frames := 0, cells := 0, slots := 0, locals := 0 } (Pr D [] [.double a] ([])) (vp_Si (fun r : Int32 => r = nI (kndN a))) 0 0 (fun _ => False) := by
  refine Met.ofW (cc := cX2_kindAt) (maxL := 2) (ret := (some .int)) (by decide) rfl ?_
  intro p e s m args below meth c s₁ B hml hv
  obtain ⟨rfl, hP, hK⟩ := hv
  have hx := B.exec
  have hb := B.bytes
  have hr := B.returns
  have hts := atoms_spec (ws := wsX2_kindAt) B.pre
  have hown : s.vm.findClass RX2 = some m.cls := findClass_of_methodNamed B.named
  have hlocks := B.notSynchronized
  have hl := lv_entry ([.double a]) (n := 2) (Nat.le_of_ble_eq_true rfl)
  rw [lg_entry_eq]
  generalize (lg_sl ([.double a]) ++ List.replicate (2 - (lg_sl ([.double a])).length) Slot.unset).toArray = ls at hl ⊢
  have hl : lv_has ls 2 [(0, .double a)] := hl
  refine lv_dload_n hx hb dX2_kindAt_0 rfl (lv_at hl 0 rfl) ?_
  refine lv_ldc2d hx hb hown (hts (.constantDouble RX2 142 4625759767262920704) (by decide +kernel)) dX2_kindAt_1 ?_
  refine kd_ge (tgt := 10) hx hb dX2_kindAt_4 dX2_kindAt_5 (by decide) k1 (fun c4 => ?_) (fun c4 => ?_)
  · refine lv_dload_n hx hb dX2_kindAt_10 rfl (lv_at hl 0 rfl) ?_
    refine lv_ldc2d hx hb hown (hts (.constantDouble RX2 144 4627730092099895296) (by decide +kernel)) dX2_kindAt_11 ?_
    refine kd_ge (tgt := 22) hx hb dX2_kindAt_14 dX2_kindAt_15 (by decide) k2 (fun c14 => ?_) (fun c14 => ?_)
    · refine lv_iconst (v := 2) hx hb dX2_kindAt_22 (by decide) ?_
      exact W.iret hx hb hr (fun t ht hW => ⟨_, rfl, by unfold kndN; rw [if_neg c4, if_neg c14]; rfl, ht⟩) (fun q hq => absurd hq List.not_mem_nil) dX2_kindAt_23
    · refine lv_iconst (v := 1) hx hb dX2_kindAt_18 (by decide) ?_
      refine lv_goto (tgt := 23) hx hb dX2_kindAt_19 (by decide) ?_
      exact W.iret hx hb hr (fun t ht hW => ⟨_, rfl, by unfold kndN; rw [if_neg c4, if_pos c14]; rfl, ht⟩) (fun q hq => absurd hq List.not_mem_nil) dX2_kindAt_23
  · refine lv_iconst (v := 0) hx hb dX2_kindAt_8 (by decide) ?_
    exact W.iret hx hb hr (fun t ht hW => ⟨_, rfl, by unfold kndN; rw [if_pos c4]; rfl, ht⟩) (fun q hq => absurd hq List.not_mem_nil) dX2_kindAt_9
set_option maxHeartbeats 4000000 in
set_option maxRecDepth 100000 in
theorem metX2_topUp (l : Launch) (D : va_G) (sz : Nat) (x r t d : Nat) (yg : Int32) (la : Nat) (bs : Nat → Nat) (cA cI : ClassId) (n : Nat) (hn : n ≤ 8) (wm df : Int32) (q : UInt64) (wd zs : Nat → Int32) (h : Nat → UInt64) (w3 : va_W) (hk9 : took zs (n - 1) h 0) : Met l yX2_topUp wsX2_topUp { frames := 4, cells := 0, slots := 0, locals := 107 } (Pm D [(cA, .object "VinegarLoft$Barrel"), (cI, .int)] [.ref x] ([(x, EX r t d yg)] ++ (rowW r la bs cA (nI n) wm df q wd zs h ++ w3)) sz) (va_Qd (fun (r : UInt64) (_ : Unit) => r = toS zs (n - 1) h 0) (Bm D [(cA, .object "VinegarLoft$Barrel"), (cI, .int)] (va_A ([(x, EX r t d yg)] ++ (rowW r la bs cA (nI n) wm df q wd zs h ++ w3)) sz) ([(x, EX r t d yg)] ++ (rowW r la bs cA (nI n) wm df q wd zs (toH zs (n - 1) h) ++ w3))) (va_A ([(x, EX r t d yg)] ++ (rowW r la bs cA (nI n) wm df q wd zs h ++ w3)) sz)) 0 0 (va_A ([(x, EX r t d yg)] ++ (rowW r la bs cA (nI n) wm df q wd zs h ++ w3)) sz) := by
  refine Met.ofW (cc := cX2_topUp) (maxL := 1) (ret := (some .double)) (by decide) rfl ?_
  intro p e s m args below meth c s₁ B hml hv
  obtain ⟨rfl, hsz, hP, hK, hD0⟩ := hv
  have hx := B.exec
  have hb := B.bytes
  have hr := B.returns
  have hts := atoms_spec (ws := wsX2_topUp) B.pre
  have hown : s.vm.findClass RX2 = some m.cls := findClass_of_methodNamed B.named
  have hlocks := B.notSynchronized
  subst hsz
  have hD := hD0.self (sz := s.heap.size)
  generalize hAe : va_A ([(x, EX r t d yg)] ++ (rowW r la bs cA (nI n) wm df q wd zs h ++ w3)) s.heap.size = A at hD ⊢
  have hA : ∀ q : Nat, s.heap.size ≤ q → A q := fun q h => by rw [← hAe]; exact Or.inr h
  refine kW_H (fun H hH => ?_)
  have hP : va_P D vwCl ([(x, EX r t d yg)] ++ (rowW r la bs cA (nI n) wm df q wd zs h ++ w3)) H := by rw [hH]; exact hP
  have hS : va_S A s.heap H [] := by rw [hH]; exact va_S.rf
  have hl := lv_entry ([.ref x]) (n := 1) (Nat.le_of_ble_eq_true rfl)
  rw [lg_entry_eq]
  generalize (lg_sl ([.ref x]) ++ List.replicate (1 - (lg_sl ([.ref x])).length) Slot.unset).toArray = ls at hl ⊢
  have hl : lv_has ls 1 [(0, .ref x)] := hl
  refine lv_aload_n hx hb dX2_topUp_0 rfl (lv_at hl 0 rfl) ?_
  refine va_get (D := D) (ci := 2) (v := .ref r) (C := RX2) (T := TX2) (N := 4) hx hb hts (by decide +kernel) hown hK hP (0) rfl rfl 0 (by decide) (hts (.fieldLink RX2 10 "VinegarLoft" "row" "LVinegarLoft$Row;") (by decide +kernel)) (fun _ h9 => h9) rfl dX2_topUp_1 ?_
  refine kc_d (w1 := [(x, EX r t d yg)]) (w3 := w3) (va_runV (As := []) (rest := []) ⟨hx, hb, hml, hown, hts⟩ (metX1_passDown l D H.size r la bs cA n hn wm df q wd zs h hk9) (cwV 0 hts gX2_topUp_X1_passDown rfl rfl rfl (by decide +kernel) ⟨Nat.le_of_ble_eq_true rfl, Nat.le_of_ble_eq_true rfl⟩) (pmV 1 0 RX1 TX1 5 rfl rfl (vj_mP hP) (hK.sub [0] rfl) (vj_mD hD)) rfl rfl hl.1 rfl (lv_room (Nat.le_of_ble_eq_true rfl)) dX2_topUp_4 ⟨Nat.le_of_ble_eq_true rfl, Nat.le_of_ble_eq_true rfl⟩) hP hD hS hA (fun H locs hP hD hS => ?_)
  have hP : va_P D vwCl ([(x, EX r t d yg)] ++ (rowW r la bs cA (nI n) wm df q wd zs (toH zs (n - 1) h) ++ w3)) H := hP
  have hD : va_D A ([(x, EX r t d yg)] ++ (rowW r la bs cA (nI n) wm df q wd zs (toH zs (n - 1) h) ++ w3)) := hD
  exact W.dret hx hb hr (fun t ht hW => ⟨⟨_, (), rfl, rfl, by rw [ht]; exact hP, va_K.moved hW.alike hK, hD⟩, hS.F ht⟩) hS.2.2 dX2_topUp_7
set_option maxHeartbeats 4000000 in
set_option maxRecDepth 100000 in
theorem metX2_year (l : Launch) (D : va_G) (sz : Nat) (x r t d : Nat) (yg : Int32) (la : Nat) (bs : Nat → Nat) (cA cI : ClassId) (n : Nat) (hn : n ≤ 8) (wm df : Int32) (q : UInt64) (wd zs : Nat → Int32) (h : Nat → UInt64) (w3 : va_W) (hdr : drok wm) (hok : agok wd (drv wm) h n) (hN : NNr n (agH wd (drv wm) h n)) (hq : ∀ b, b < n → vf_n64 (FP.dmul 4598175219545276416 ((agH wd (drv wm) h n) b))) : Met l yX2_year wsX2_year { frames := 4, cells := 0, slots := 0, locals := 95 } (Pm D [(cA, .object "VinegarLoft$Barrel"), (cI, .int)] [.ref x] ([(x, EX r t d yg)] ++ (rowW r la bs cA (nI n) wm df q wd zs h ++ w3)) sz) (va_Qd (fun (r : UInt64) (_ : Unit) => r = agS wd (drv wm) h n) (Bm D [(cA, .object "VinegarLoft$Barrel"), (cI, .int)] (va_A ([(x, EX r t d yg)] ++ (rowW r la bs cA (nI n) wm df q wd zs h ++ w3)) sz) ([(x, EX r t d (yg + 1))] ++ (rowW r la bs cA (nI n) wm (encO (elO (agH wd (drv wm) h n) n)) (quv (agH wd (drv wm) h n) (elO (agH wd (drv wm) h n) n)) wd zs (agH wd (drv wm) h n) ++ w3))) (va_A ([(x, EX r t d yg)] ++ (rowW r la bs cA (nI n) wm df q wd zs h ++ w3)) sz)) 0 0 (va_A ([(x, EX r t d yg)] ++ (rowW r la bs cA (nI n) wm df q wd zs h ++ w3)) sz) := by
  refine Met.ofW (cc := cX2_year) (maxL := 1) (ret := (some .double)) (by decide) rfl ?_
  intro p e s m args below meth c s₁ B hml hv
  obtain ⟨rfl, hsz, hP, hK, hD0⟩ := hv
  have hx := B.exec
  have hb := B.bytes
  have hr := B.returns
  have hts := atoms_spec (ws := wsX2_year) B.pre
  have hown : s.vm.findClass RX2 = some m.cls := findClass_of_methodNamed B.named
  have hlocks := B.notSynchronized
  subst hsz
  have hD := hD0.self (sz := s.heap.size)
  generalize hAe : va_A ([(x, EX r t d yg)] ++ (rowW r la bs cA (nI n) wm df q wd zs h ++ w3)) s.heap.size = A at hD ⊢
  have hA : ∀ q : Nat, s.heap.size ≤ q → A q := fun q h => by rw [← hAe]; exact Or.inr h
  refine kW_H (fun H hH => ?_)
  have hP : va_P D vwCl ([(x, EX r t d yg)] ++ (rowW r la bs cA (nI n) wm df q wd zs h ++ w3)) H := by rw [hH]; exact hP
  have hS : va_S A s.heap H [] := by rw [hH]; exact va_S.rf
  have hl := lv_entry ([.ref x]) (n := 1) (Nat.le_of_ble_eq_true rfl)
  rw [lg_entry_eq]
  generalize (lg_sl ([.ref x]) ++ List.replicate (1 - (lg_sl ([.ref x])).length) Slot.unset).toArray = ls at hl ⊢
  have hl : lv_has ls 1 [(0, .ref x)] := hl
  refine lv_aload_n hx hb dX2_year_0 rfl (lv_at hl 0 rfl) ?_
  refine lv_dup hx hb dX2_year_1 rfl ?_
  refine va_get (D := D) (ci := 2) (v := .int yg) (C := RX2) (T := TX2) (N := 4) hx hb hts (by decide +kernel) hown hK hP (0) rfl rfl 3 (by decide) (hts (.fieldLink RX2 23 "VinegarLoft" "yearsGone" "I") (by decide +kernel)) (fun _ h9 => h9) rfl dX2_year_2 ?_
  refine lv_iconst (v := 1) hx hb dX2_year_5 (by decide) ?_
  refine lv_iadd hx hb dX2_year_6 ?_
  refine va_put (D := D) (ci := 2) (v := .int (yg + 1)) (ty := .int) (C := RX2) (T := TX2) (N := 4) hx hb hts (by decide +kernel) tyX2 tyX2_ok nmX2 hown hK hP hD hS (0) rfl rfl 3 (by decide) (hts (.fieldLink RX2 23 "VinegarLoft" "yearsGone" "I") (by decide +kernel)) (fun _ h9 => h9) rfl (by decide +kernel) rfl rfl (Nat.le_of_ble_eq_true rfl) dX2_year_7 (fun H locs hP hD hS => ?_)
  have hP : va_P D vwCl ([(x, EX r t d (yg + 1))] ++ (rowW r la bs cA (nI n) wm df q wd zs h ++ w3)) H := hP
  have hD : va_D A ([(x, EX r t d (yg + 1))] ++ (rowW r la bs cA (nI n) wm df q wd zs h ++ w3)) := hD
  refine lv_aload_n hx hb dX2_year_10 rfl (lv_at hl 0 rfl) ?_
  refine va_get (D := D) (ci := 2) (v := .ref r) (C := RX2) (T := TX2) (N := 4) hx hb hts (by decide +kernel) hown hK hP (0) rfl rfl 0 (by decide) (hts (.fieldLink RX2 10 "VinegarLoft" "row" "LVinegarLoft$Row;") (by decide +kernel)) (fun _ h9 => h9) rfl dX2_year_11 ?_
  refine kc_d (w1 := [(x, EX r t d (yg + 1))]) (w3 := w3) (va_runV (As := []) (rest := []) ⟨hx, hb, hml, hown, hts⟩ (metX1_ageAll l D H.size r la bs cA n hn wm df q wd zs h hdr hok hN hq) (cwV 0 hts gX2_year_X1_ageAll rfl rfl rfl (by decide +kernel) ⟨Nat.le_of_ble_eq_true rfl, Nat.le_of_ble_eq_true rfl⟩) (pmV 1 0 RX1 TX1 5 rfl rfl (vj_mP hP) (hK.sub [0] rfl) (vj_mD hD)) rfl rfl hl.1 rfl (lv_room (Nat.le_of_ble_eq_true rfl)) dX2_year_14 ⟨Nat.le_of_ble_eq_true rfl, Nat.le_of_ble_eq_true rfl⟩) hP hD hS hA (fun H locs hP hD hS => ?_)
  have hP : va_P D vwCl ([(x, EX r t d (yg + 1))] ++ (rowW r la bs cA (nI n) wm (encO (elO (agH wd (drv wm) h n) n)) (quv (agH wd (drv wm) h n) (elO (agH wd (drv wm) h n) n)) wd zs (agH wd (drv wm) h n) ++ w3)) H := hP
  have hD : va_D A ([(x, EX r t d (yg + 1))] ++ (rowW r la bs cA (nI n) wm (encO (elO (agH wd (drv wm) h n) n)) (quv (agH wd (drv wm) h n) (elO (agH wd (drv wm) h n) n)) wd zs (agH wd (drv wm) h n) ++ w3)) := hD
  exact W.dret hx hb hr (fun t ht hW => ⟨⟨_, (), rfl, rfl, by rw [ht]; exact hP, va_K.moved hW.alike hK, hD⟩, hS.F ht⟩) hS.2.2 dX2_year_17
theorem fa_nlt {a b : Int32} (h : ¬ a < b) : b ≤ a := by
  rw [Int32.le_iff_toInt_le]
  rw [Int32.lt_iff_toInt_lt] at h
  omega
theorem fa_nle {a b : Int32} (h : ¬ a ≤ b) : b < a := by
  rw [Int32.lt_iff_toInt_lt]
  rw [Int32.le_iff_toInt_le] at h
  omega
theorem nbadA1 {zs : Nat → Int32} {n : Nat} {x z : Int32} (h1 : ¬ x < 0) (h2 : x < 4) (h3 : ¬ z < 10) (h4 : z ≤ lgN zs n) : ¬ badA1 zs n x z := by
  rintro ((h | h) | (h | h))
  · exact h1 h
  · rw [Int32.le_iff_toInt_le] at h; rw [Int32.lt_iff_toInt_lt] at h2; omega
  · exact h3 h
  · rw [Int32.lt_iff_toInt_lt] at h; rw [Int32.le_iff_toInt_le] at h4; omega
theorem nbadR {lo hi x : Int32} (h1 : ¬ x < lo) (h2 : x ≤ hi) : ¬ badR lo hi x := by
  rintro (h | h)
  · exact h1 h
  · rw [Int32.lt_iff_toInt_lt] at h; rw [Int32.le_iff_toInt_le] at h2; omega
set_option maxHeartbeats 4000000 in
set_option maxRecDepth 100000 in
/-- add(wood, size) -/
theorem metX2_add (l : Launch) (hst : l.stackTraces = false) (D : va_G) (sz : Nat) (x r t d : Nat) (yg : Int32) (la : Nat) (bs : Nat → Nat) (cA cI : ClassId) (n : Nat) (hn : n ≤ 8) (wm df : Int32) (q : UInt64) (wd zs : Nat → Int32) (h : Nat → UInt64) (w3 : va_W) (x9 z9 : Int32)  : vx_Met l yX2_add wsX2_add { frames := 6, cells := 1, slots := 6, locals := 82 } (Pt D [(cA, .object "VinegarLoft$Barrel"), (cI, .int)] [.ref x, .int x9, .int z9] ([(x, EX r t d yg)] ++ (rowW r la bs cA (nI n) wm df q wd zs h ++ w3)) sz) (va_Qi (fun (r9 : Int32) (_ : Unit) => (¬ badA1 zs n x9 z9 ∧ n < 8) ∧ r9 = nI n) (Bm D [(cA, .object "VinegarLoft$Barrel"), (cI, .int)] (va_A ([(x, EX r t d yg)] ++ (rowW r la bs cA (nI n) wm df q wd zs h ++ w3)) sz) ([(x, EX r t d yg)] ++ (rowW r la bs cA (nI (n + 1)) wm df q (va_up wd n x9) (va_up zs n z9) (hset h n 0 0 0 0) ++ w3))) (va_A ([(x, EX r t d yg)] ++ (rowW r la bs cA (nI n) wm df q wd zs h ++ w3)) sz)) (XE (fun E => (E = xIAE ∧ badA1 zs n x9 z9) ∨ (E = xISE ∧ ¬ badA1 zs n x9 z9 ∧ ¬ n < 8)) D [(cA, .object "VinegarLoft$Barrel"), (cI, .int)] (va_A ([(x, EX r t d yg)] ++ (rowW r la bs cA (nI n) wm df q wd zs h ++ w3)) sz) ([(x, EX r t d yg)] ++ (rowW r la bs cA (nI n) wm df q wd zs h ++ w3))) 1 6 (va_A ([(x, EX r t d yg)] ++ (rowW r la bs cA (nI n) wm df q wd zs h ++ w3)) sz) := by
  refine vx_ofW (cc := cX2_add) (maxL := 3) (ret := (some .int)) (by decide) rfl ?_
  intro p e s m args below meth c s₁ B hml ht hv
  obtain ⟨rfl, hsz, hP, hK, hD0, hX⟩ := hv
  have hx := B.exec
  have hb := B.bytes
  have hr := B.returns
  have hts := atoms_spec (ws := wsX2_add) B.pre
  have hown : s.vm.findClass RX2 = some m.cls := findClass_of_methodNamed B.named
  have hlocks := B.notSynchronized
  subst hsz
  have hD := hD0.self (sz := s.heap.size)
  generalize hAe : va_A ([(x, EX r t d yg)] ++ (rowW r la bs cA (nI n) wm df q wd zs h ++ w3)) s.heap.size = A at hD hX ⊢
  have hA : ∀ q : Nat, s.heap.size ≤ q → A q := fun q h => by rw [← hAe]; exact Or.inr h
  refine kW_H (fun H hH => ?_)
  have hP : va_P D vwCl ([(x, EX r t d yg)] ++ (rowW r la bs cA (nI n) wm df q wd zs h ++ w3)) H := by rw [hH]; exact hP
  have hS : va_S A s.heap H [] := by rw [hH]; exact va_S.rf
  have hl := lv_entry ([.ref x, .int x9, .int z9]) (n := 3) (Nat.le_of_ble_eq_true rfl)
  rw [lg_entry_eq]
  generalize (lg_sl ([.ref x, .int x9, .int z9]) ++ List.replicate (3 - (lg_sl ([.ref x, .int x9, .int z9])).length) Slot.unset).toArray = ls at hl ⊢
  have hl : lv_has ls 3 [(0, .ref x), (1, .int x9), (2, .int z9)] := hl
  refine lv_iload_n hx hb dX2_add_0 rfl (lv_at hl 1 rfl) ?_
  refine lv_if_lt (tgt := 9) hx hb dX2_add_1 (by decide) (fun c1 => ?_) (fun c1 => ?_)
  · exact kx_throw (ik := 27) (is := 29) (ic := 31) (cls := xIAE) (text := "no such wood") hx hb hst hown hlocks (by decide) (hts (.classLink RX2 27 xIAE) (by decide +kernel)) (hts (.initialized xIAE) (by decide +kernel)) (by decide) (fun w h9 => hts w (List.mem_cons_of_mem _ (List.mem_append_left _ (List.mem_append_right _ h9)))) (by decide +kernel) (by decide +kernel) hX hS (hl.1.trans hml.symm) ht dX2_add_9 dX2_add_12 dX2_add_13 dX2_add_15 dX2_add_18 ⟨Nat.le_of_ble_eq_true rfl, Nat.le_of_ble_eq_true rfl, Nat.le_of_ble_eq_true rfl, Nat.le_of_ble_eq_true rfl⟩ (Or.inl ⟨rfl, Or.inl (Or.inl c1)⟩) hP hK hD (fun q h => h) (Nat.le_of_ble_eq_true rfl) (Nat.le_of_ble_eq_true rfl)
  · refine lv_iload_n hx hb dX2_add_4 rfl (lv_at hl 1 rfl) ?_
    refine lv_iconst (v := 4) hx hb dX2_add_5 (by decide) ?_
    refine lv_icmp_lt (tgt := 19) hx hb dX2_add_6 (by decide) (fun c6 => ?_) (fun c6 => ?_)
    · refine lv_iload_n hx hb dX2_add_19 rfl (lv_at hl 2 rfl) ?_
      refine lv_bipush (v := 10) hx hb dX2_add_20 (by decide) ?_
      refine lv_icmp_lt (tgt := 36) hx hb dX2_add_22 (by decide) (fun c22 => ?_) (fun c22 => ?_)
      · exact kx_throw (ik := 27) (is := 38) (ic := 31) (cls := xIAE) (text := "size out of range") hx hb hst hown hlocks (by decide) (hts (.classLink RX2 27 xIAE) (by decide +kernel)) (hts (.initialized xIAE) (by decide +kernel)) (by decide) (fun w h9 => hts w (List.mem_cons_of_mem _ (List.mem_append_left _ (List.mem_append_right _ h9)))) (by decide +kernel) (by decide +kernel) hX hS (hl.1.trans hml.symm) ht dX2_add_36 dX2_add_39 dX2_add_40 dX2_add_42 dX2_add_45 ⟨Nat.le_of_ble_eq_true rfl, Nat.le_of_ble_eq_true rfl, Nat.le_of_ble_eq_true rfl, Nat.le_of_ble_eq_true rfl⟩ (Or.inl ⟨rfl, Or.inr (Or.inl c22)⟩) hP hK hD (fun q h => h) (Nat.le_of_ble_eq_true rfl) (Nat.le_of_ble_eq_true rfl)
      · refine lv_iload_n hx hb dX2_add_25 rfl (lv_at hl 2 rfl) ?_
        refine lv_aload_n hx hb dX2_add_26 rfl (lv_at hl 0 rfl) ?_
        refine va_get (D := D) (ci := 2) (v := .ref r) (C := RX2) (T := TX2) (N := 4) hx hb hts (by decide +kernel) hown hK hP (0) rfl rfl 0 (by decide) (hts (.fieldLink RX2 10 "VinegarLoft" "row" "LVinegarLoft$Row;") (by decide +kernel)) (fun _ h9 => h9) rfl dX2_add_27 ?_
        refine kr_i (W.runV (As := []) (rest := [.int z9]) ⟨hx, hb, hml, hown, hts⟩ (metX1_largestNext l D r la bs cA n hn wm df q wd zs h) (cwV 0 hts gX2_add_X1_largestNext rfl rfl rfl (by decide +kernel) ⟨Nat.le_of_ble_eq_true rfl, Nat.le_of_ble_eq_true rfl⟩) (prV 1 0 RX1 TX1 5 rfl rfl (vj_mP hP) (hK.sub [0] rfl)) rfl rfl hl.1 rfl (lv_room (Nat.le_of_ble_eq_true rfl)) dX2_add_30 ⟨Nat.le_of_ble_eq_true rfl, Nat.le_of_ble_eq_true rfl⟩) ?_
        refine lv_icmp_le (tgt := 46) hx hb dX2_add_33 (by decide) (fun c33 => ?_) (fun c33 => ?_)
        · refine lv_aload_n hx hb dX2_add_46 rfl (lv_at hl 0 rfl) ?_
          refine va_get (D := D) (ci := 2) (v := .ref r) (C := RX2) (T := TX2) (N := 4) hx hb hts (by decide +kernel) hown hK hP (0) rfl rfl 0 (by decide) (hts (.fieldLink RX2 10 "VinegarLoft" "row" "LVinegarLoft$Row;") (by decide +kernel)) (fun _ h9 => h9) rfl dX2_add_47 ?_
          refine kr_i (W.runV (As := []) (rest := []) ⟨hx, hb, hml, hown, hts⟩ (metX1_isComplete l D r la bs cA n hn wm df q wd zs h) (cwV 0 hts gX2_add_X1_isComplete rfl rfl rfl (by decide +kernel) ⟨Nat.le_of_ble_eq_true rfl, Nat.le_of_ble_eq_true rfl⟩) (prV 1 0 RX1 TX1 5 rfl rfl (vj_mP hP) (hK.sub [0] rfl)) rfl rfl hl.1 rfl (lv_room (Nat.le_of_ble_eq_true rfl)) dX2_add_50 ⟨Nat.le_of_ble_eq_true rfl, Nat.le_of_ble_eq_true rfl⟩) ?_
          refine lv_if_eq (tgt := 66) hx hb dX2_add_53 (by decide) (fun c53 => ?_) (fun c53 => ?_)
          · refine lv_aload_n hx hb dX2_add_66 rfl (lv_at hl 0 rfl) ?_
            refine va_get (D := D) (ci := 2) (v := .ref r) (C := RX2) (T := TX2) (N := 4) hx hb hts (by decide +kernel) hown hK hP (0) rfl rfl 0 (by decide) (hts (.fieldLink RX2 10 "VinegarLoft" "row" "LVinegarLoft$Row;") (by decide +kernel)) (fun _ h9 => h9) rfl dX2_add_67 ?_
            refine lv_iload_n hx hb dX2_add_70 rfl (lv_at hl 1 rfl) ?_
            refine lv_iload_n hx hb dX2_add_71 rfl (lv_at hl 2 rfl) ?_
            have hn8 : n < 8 := Classical.byContradiction fun h9 => by have h8 : ¬ nI n < 8 := (fun h8 => h9 ((nI_ltI (a := n) (b := 8) (by omega) (by decide)).mp h8)); rw [if_neg h8] at c53; exact absurd c53 (by decide)
            refine kc_i (w1 := [(x, EX r t d yg)]) (w3 := w3) (va_runV (As := [.int x9, .int z9]) (rest := []) ⟨hx, hb, hml, hown, hts⟩ (metX1_putBehind l D H.size r la bs cA n hn wm df q wd zs h hn8 x9 z9) (cwV 2 hts gX2_add_X1_putBehind rfl rfl rfl (by decide +kernel) ⟨Nat.le_of_ble_eq_true rfl, Nat.le_of_ble_eq_true rfl⟩) (pmV 1 0 RX1 TX1 5 rfl rfl (vj_mP hP) (hK.sub [0] rfl) (vj_mD hD)) rfl rfl hl.1 rfl (lv_room (Nat.le_of_ble_eq_true rfl)) dX2_add_72 ⟨Nat.le_of_ble_eq_true rfl, Nat.le_of_ble_eq_true rfl⟩) hP hD hS hA (fun H locs hP hD hS => ?_)
            have hP : va_P D vwCl ([(x, EX r t d yg)] ++ (rowW r la bs cA (nI (n + 1)) wm df q (va_up wd n x9) (va_up zs n z9) (hset h n 0 0 0 0) ++ w3)) H := hP
            have hD : va_D A ([(x, EX r t d yg)] ++ (rowW r la bs cA (nI (n + 1)) wm df q (va_up wd n x9) (va_up zs n z9) (hset h n 0 0 0 0) ++ w3)) := hD
            refine vx_ret ?_
            refine W.widen (k := 1) (n := 6) (Nat.le_of_ble_eq_true rfl) (Nat.le_of_ble_eq_true rfl) ?_
            exact W.iret hx hb hr (fun t9 ht9 hW => ⟨⟨_, (), rfl, ⟨⟨nbadA1 c1 c6 c22 c33, hn8⟩, rfl⟩, by rw [ht9]; exact hP, va_K.moved hW.alike hK, hD⟩, hS.F ht9⟩) hS.2.2 dX2_add_75
          · exact kx_throw (ik := 44) (is := 46) (ic := 48) (cls := xISE) (text := "the row has all its barrels") hx hb hst hown hlocks (by decide) (hts (.classLink RX2 44 xISE) (by decide +kernel)) (hts (.initialized xISE) (by decide +kernel)) (by decide) (fun w h9 => hts w (List.mem_cons_of_mem _ (List.mem_append_right _ h9))) (by decide +kernel) (by decide +kernel) hX hS (hl.1.trans hml.symm) ht dX2_add_56 dX2_add_59 dX2_add_60 dX2_add_62 dX2_add_65 ⟨Nat.le_of_ble_eq_true rfl, Nat.le_of_ble_eq_true rfl, Nat.le_of_ble_eq_true rfl, Nat.le_of_ble_eq_true rfl⟩ (Or.inr ⟨rfl, nbadA1 c1 c6 c22 c33, fun h9 => c53 (if_pos (nI_lt (a := n) (b := 8) h9 (by decide)))⟩) hP hK hD (fun q h => h) (Nat.le_of_ble_eq_true rfl) (Nat.le_of_ble_eq_true rfl)
        · exact kx_throw (ik := 27) (is := 38) (ic := 31) (cls := xIAE) (text := "size out of range") hx hb hst hown hlocks (by decide) (hts (.classLink RX2 27 xIAE) (by decide +kernel)) (hts (.initialized xIAE) (by decide +kernel)) (by decide) (fun w h9 => hts w (List.mem_cons_of_mem _ (List.mem_append_left _ (List.mem_append_right _ h9)))) (by decide +kernel) (by decide +kernel) hX hS (hl.1.trans hml.symm) ht dX2_add_36 dX2_add_39 dX2_add_40 dX2_add_42 dX2_add_45 ⟨Nat.le_of_ble_eq_true rfl, Nat.le_of_ble_eq_true rfl, Nat.le_of_ble_eq_true rfl, Nat.le_of_ble_eq_true rfl⟩ (Or.inl ⟨rfl, Or.inr (Or.inr (fa_nle c33))⟩) hP hK hD (fun q h => h) (Nat.le_of_ble_eq_true rfl) (Nat.le_of_ble_eq_true rfl)
    · exact kx_throw (ik := 27) (is := 29) (ic := 31) (cls := xIAE) (text := "no such wood") hx hb hst hown hlocks (by decide) (hts (.classLink RX2 27 xIAE) (by decide +kernel)) (hts (.initialized xIAE) (by decide +kernel)) (by decide) (fun w h9 => hts w (List.mem_cons_of_mem _ (List.mem_append_left _ (List.mem_append_right _ h9)))) (by decide +kernel) (by decide +kernel) hX hS (hl.1.trans hml.symm) ht dX2_add_9 dX2_add_12 dX2_add_13 dX2_add_15 dX2_add_18 ⟨Nat.le_of_ble_eq_true rfl, Nat.le_of_ble_eq_true rfl, Nat.le_of_ble_eq_true rfl, Nat.le_of_ble_eq_true rfl⟩ (Or.inl ⟨rfl, Or.inl (Or.inr (fa_nlt c6))⟩) hP hK hD (fun q h => h) (Nat.le_of_ble_eq_true rfl) (Nat.le_of_ble_eq_true rfl)
set_option maxHeartbeats 4000000 in
set_option maxRecDepth 100000 in
/-- fill(litres) -/
theorem metX2_fill (l : Launch) (hst : l.stackTraces = false) (D : va_G) (sz : Nat) (x r t d : Nat) (yg : Int32) (la : Nat) (bs : Nat → Nat) (cA cI : ClassId) (n : Nat) (hn : n ≤ 8) (wm df : Int32) (q : UInt64) (wd zs : Nat → Int32) (h : Nat → UInt64) (w3 : va_W) (x9 : Int32) (hp : ¬ badR 1 100 x9 → n ≠ 0 → pook (zs 0) h (FP.i2d x9)) : vx_Met l yX2_fill wsX2_fill { frames := 6, cells := 1, slots := 6, locals := 83 } (Pt D [(cA, .object "VinegarLoft$Barrel"), (cI, .int)] [.ref x, .int x9] ([(x, EX r t d yg)] ++ (rowW r la bs cA (nI n) wm df q wd zs h ++ w3)) sz) (va_Qd (fun (r9 : UInt64) (_ : Unit) => (¬ badR 1 100 x9) ∧ r9 = pmR n zs h (FP.i2d x9)) (Bm D [(cA, .object "VinegarLoft$Barrel"), (cI, .int)] (va_A ([(x, EX r t d yg)] ++ (rowW r la bs cA (nI n) wm df q wd zs h ++ w3)) sz) ([(x, EX r t d yg)] ++ (rowW r la bs cA (nI n) wm df q wd zs (pmH n zs h (FP.i2d x9)) ++ w3))) (va_A ([(x, EX r t d yg)] ++ (rowW r la bs cA (nI n) wm df q wd zs h ++ w3)) sz)) (XE (fun E => E = xIAE ∧ badR 1 100 x9) D [(cA, .object "VinegarLoft$Barrel"), (cI, .int)] (va_A ([(x, EX r t d yg)] ++ (rowW r la bs cA (nI n) wm df q wd zs h ++ w3)) sz) ([(x, EX r t d yg)] ++ (rowW r la bs cA (nI n) wm df q wd zs h ++ w3))) 1 6 (va_A ([(x, EX r t d yg)] ++ (rowW r la bs cA (nI n) wm df q wd zs h ++ w3)) sz) := by
  refine vx_ofW (cc := cX2_fill) (maxL := 2) (ret := (some .double)) (by decide) rfl ?_
  intro p e s m args below meth c s₁ B hml ht hv
  obtain ⟨rfl, hsz, hP, hK, hD0, hX⟩ := hv
  have hx := B.exec
  have hb := B.bytes
  have hr := B.returns
  have hts := atoms_spec (ws := wsX2_fill) B.pre
  have hown : s.vm.findClass RX2 = some m.cls := findClass_of_methodNamed B.named
  have hlocks := B.notSynchronized
  subst hsz
  have hD := hD0.self (sz := s.heap.size)
  generalize hAe : va_A ([(x, EX r t d yg)] ++ (rowW r la bs cA (nI n) wm df q wd zs h ++ w3)) s.heap.size = A at hD hX ⊢
  have hA : ∀ q : Nat, s.heap.size ≤ q → A q := fun q h => by rw [← hAe]; exact Or.inr h
  refine kW_H (fun H hH => ?_)
  have hP : va_P D vwCl ([(x, EX r t d yg)] ++ (rowW r la bs cA (nI n) wm df q wd zs h ++ w3)) H := by rw [hH]; exact hP
  have hS : va_S A s.heap H [] := by rw [hH]; exact va_S.rf
  have hl := lv_entry ([.ref x, .int x9]) (n := 2) (Nat.le_of_ble_eq_true rfl)
  rw [lg_entry_eq]
  generalize (lg_sl ([.ref x, .int x9]) ++ List.replicate (2 - (lg_sl ([.ref x, .int x9])).length) Slot.unset).toArray = ls at hl ⊢
  have hl : lv_has ls 2 [(0, .ref x), (1, .int x9)] := hl
  refine lv_iload_n hx hb dX2_fill_0 rfl (lv_at hl 1 rfl) ?_
  refine lv_iconst (v := 1) hx hb dX2_fill_1 (by decide) ?_
  refine lv_icmp_lt (tgt := 11) hx hb dX2_fill_2 (by decide) (fun c2 => ?_) (fun c2 => ?_)
  · exact kx_throw (ik := 27) (is := 53) (ic := 31) (cls := xIAE) (text := "litres out of range") hx hb hst hown hlocks (by decide) (hts (.classLink RX2 27 xIAE) (by decide +kernel)) (hts (.initialized xIAE) (by decide +kernel)) (by decide) (fun w h9 => hts w (List.mem_cons_of_mem _ (List.mem_append_right _ h9))) (by decide +kernel) (by decide +kernel) hX hS (hl.1.trans hml.symm) ht dX2_fill_11 dX2_fill_14 dX2_fill_15 dX2_fill_17 dX2_fill_20 ⟨Nat.le_of_ble_eq_true rfl, Nat.le_of_ble_eq_true rfl, Nat.le_of_ble_eq_true rfl, Nat.le_of_ble_eq_true rfl⟩ (⟨rfl, Or.inl c2⟩) hP hK hD (fun q h => h) (Nat.le_of_ble_eq_true rfl) (Nat.le_of_ble_eq_true rfl)
  · refine lv_iload_n hx hb dX2_fill_5 rfl (lv_at hl 1 rfl) ?_
    refine lv_bipush (v := 100) hx hb dX2_fill_6 (by decide) ?_
    refine lv_icmp_le (tgt := 21) hx hb dX2_fill_8 (by decide) (fun c8 => ?_) (fun c8 => ?_)
    · refine lv_aload_n hx hb dX2_fill_21 rfl (lv_at hl 0 rfl) ?_
      refine va_get (D := D) (ci := 2) (v := .ref r) (C := RX2) (T := TX2) (N := 4) hx hb hts (by decide +kernel) hown hK hP (0) rfl rfl 0 (by decide) (hts (.fieldLink RX2 10 "VinegarLoft" "row" "LVinegarLoft$Row;") (by decide +kernel)) (fun _ h9 => h9) rfl dX2_fill_22 ?_
      refine lv_iload_n hx hb dX2_fill_25 rfl (lv_at hl 1 rfl) ?_
      refine kc_d (w1 := [(x, EX r t d yg)]) (w3 := w3) (va_runV (As := [.int x9]) (rest := []) ⟨hx, hb, hml, hown, hts⟩ (metX1_pourMust l D H.size r la bs cA n hn wm df q wd zs h x9 (hp (nbadR c2 c8))) (cwV 1 hts gX2_fill_X1_pourMust rfl rfl rfl (by decide +kernel) ⟨Nat.le_of_ble_eq_true rfl, Nat.le_of_ble_eq_true rfl⟩) (pmV 1 0 RX1 TX1 5 rfl rfl (vj_mP hP) (hK.sub [0] rfl) (vj_mD hD)) rfl rfl hl.1 rfl (lv_room (Nat.le_of_ble_eq_true rfl)) dX2_fill_26 ⟨Nat.le_of_ble_eq_true rfl, Nat.le_of_ble_eq_true rfl⟩) hP hD hS hA (fun H locs hP hD hS => ?_)
      have hP : va_P D vwCl ([(x, EX r t d yg)] ++ (rowW r la bs cA (nI n) wm df q wd zs (pmH n zs h (FP.i2d x9)) ++ w3)) H := hP
      have hD : va_D A ([(x, EX r t d yg)] ++ (rowW r la bs cA (nI n) wm df q wd zs (pmH n zs h (FP.i2d x9)) ++ w3)) := hD
      refine vx_ret ?_
      refine W.widen (k := 1) (n := 6) (Nat.le_of_ble_eq_true rfl) (Nat.le_of_ble_eq_true rfl) ?_
      exact W.dret hx hb hr (fun t9 ht9 hW => ⟨⟨_, (), rfl, ⟨(nbadR c2 c8), rfl⟩, by rw [ht9]; exact hP, va_K.moved hW.alike hK, hD⟩, hS.F ht9⟩) hS.2.2 dX2_fill_29
    · exact kx_throw (ik := 27) (is := 53) (ic := 31) (cls := xIAE) (text := "litres out of range") hx hb hst hown hlocks (by decide) (hts (.classLink RX2 27 xIAE) (by decide +kernel)) (hts (.initialized xIAE) (by decide +kernel)) (by decide) (fun w h9 => hts w (List.mem_cons_of_mem _ (List.mem_append_right _ h9))) (by decide +kernel) (by decide +kernel) hX hS (hl.1.trans hml.symm) ht dX2_fill_11 dX2_fill_14 dX2_fill_15 dX2_fill_17 dX2_fill_20 ⟨Nat.le_of_ble_eq_true rfl, Nat.le_of_ble_eq_true rfl, Nat.le_of_ble_eq_true rfl, Nat.le_of_ble_eq_true rfl⟩ (⟨rfl, Or.inr (fa_nle c8)⟩) hP hK hD (fun q h => h) (Nat.le_of_ble_eq_true rfl) (Nat.le_of_ble_eq_true rfl)
set_option maxHeartbeats 4000000 in
set_option maxRecDepth 100000 in
/-- setWarmth(degrees) -/
theorem metX2_setWarmth (l : Launch) (hst : l.stackTraces = false) (D : va_G) (sz : Nat) (x r t d : Nat) (yg : Int32) (la : Nat) (bs : Nat → Nat) (cA cI : ClassId) (n : Nat) (hn : n ≤ 8) (wm df : Int32) (q : UInt64) (wd zs : Nat → Int32) (h : Nat → UInt64) (w3 : va_W) (x9 : Int32)  : vx_Met l yX2_setWarmth wsX2_setWarmth { frames := 6, cells := 1, slots := 6, locals := 82 } (Pt D [(cA, .object "VinegarLoft$Barrel"), (cI, .int)] [.ref x, .int x9] ([(x, EX r t d yg)] ++ (rowW r la bs cA (nI n) wm df q wd zs h ++ w3)) sz) (va_Qv (fun (_ : Unit) => ¬ badR 0 40 x9) (Bm D [(cA, .object "VinegarLoft$Barrel"), (cI, .int)] (va_A ([(x, EX r t d yg)] ++ (rowW r la bs cA (nI n) wm df q wd zs h ++ w3)) sz) ([(x, EX r t d yg)] ++ (rowW r la bs cA (nI n) x9 df q wd zs h ++ w3))) (va_A ([(x, EX r t d yg)] ++ (rowW r la bs cA (nI n) wm df q wd zs h ++ w3)) sz)) (XE (fun E => E = xIAE ∧ badR 0 40 x9) D [(cA, .object "VinegarLoft$Barrel"), (cI, .int)] (va_A ([(x, EX r t d yg)] ++ (rowW r la bs cA (nI n) wm df q wd zs h ++ w3)) sz) ([(x, EX r t d yg)] ++ (rowW r la bs cA (nI n) wm df q wd zs h ++ w3))) 1 6 (va_A ([(x, EX r t d yg)] ++ (rowW r la bs cA (nI n) wm df q wd zs h ++ w3)) sz) := by
  refine vx_ofW (cc := cX2_setWarmth) (maxL := 2) (ret := none) (by decide) rfl ?_
  intro p e s m args below meth c s₁ B hml ht hv
  obtain ⟨rfl, hsz, hP, hK, hD0, hX⟩ := hv
  have hx := B.exec
  have hb := B.bytes
  have hr := B.returns
  have hts := atoms_spec (ws := wsX2_setWarmth) B.pre
  have hown : s.vm.findClass RX2 = some m.cls := findClass_of_methodNamed B.named
  have hlocks := B.notSynchronized
  subst hsz
  have hD := hD0.self (sz := s.heap.size)
  generalize hAe : va_A ([(x, EX r t d yg)] ++ (rowW r la bs cA (nI n) wm df q wd zs h ++ w3)) s.heap.size = A at hD hX ⊢
  have hA : ∀ q : Nat, s.heap.size ≤ q → A q := fun q h => by rw [← hAe]; exact Or.inr h
  refine kW_H (fun H hH => ?_)
  have hP : va_P D vwCl ([(x, EX r t d yg)] ++ (rowW r la bs cA (nI n) wm df q wd zs h ++ w3)) H := by rw [hH]; exact hP
  have hS : va_S A s.heap H [] := by rw [hH]; exact va_S.rf
  have hl := lv_entry ([.ref x, .int x9]) (n := 2) (Nat.le_of_ble_eq_true rfl)
  rw [lg_entry_eq]
  generalize (lg_sl ([.ref x, .int x9]) ++ List.replicate (2 - (lg_sl ([.ref x, .int x9])).length) Slot.unset).toArray = ls at hl ⊢
  have hl : lv_has ls 2 [(0, .ref x), (1, .int x9)] := hl
  refine lv_iload_n hx hb dX2_setWarmth_0 rfl (lv_at hl 1 rfl) ?_
  refine lv_if_lt (tgt := 10) hx hb dX2_setWarmth_1 (by decide) (fun c1 => ?_) (fun c1 => ?_)
  · exact kx_throw (ik := 27) (is := 95) (ic := 31) (cls := xIAE) (text := "degrees out of range") hx hb hst hown hlocks (by decide) (hts (.classLink RX2 27 xIAE) (by decide +kernel)) (hts (.initialized xIAE) (by decide +kernel)) (by decide) (fun w h9 => hts w (List.mem_cons_of_mem _ (List.mem_append_right _ h9))) (by decide +kernel) (by decide +kernel) hX hS (hl.1.trans hml.symm) ht dX2_setWarmth_10 dX2_setWarmth_13 dX2_setWarmth_14 dX2_setWarmth_16 dX2_setWarmth_19 ⟨Nat.le_of_ble_eq_true rfl, Nat.le_of_ble_eq_true rfl, Nat.le_of_ble_eq_true rfl, Nat.le_of_ble_eq_true rfl⟩ (⟨rfl, Or.inl c1⟩) hP hK hD (fun q h => h) (Nat.le_of_ble_eq_true rfl) (Nat.le_of_ble_eq_true rfl)
  · refine lv_iload_n hx hb dX2_setWarmth_4 rfl (lv_at hl 1 rfl) ?_
    refine lv_bipush (v := 40) hx hb dX2_setWarmth_5 (by decide) ?_
    refine lv_icmp_le (tgt := 20) hx hb dX2_setWarmth_7 (by decide) (fun c7 => ?_) (fun c7 => ?_)
    · refine lv_aload_n hx hb dX2_setWarmth_20 rfl (lv_at hl 0 rfl) ?_
      refine va_get (D := D) (ci := 2) (v := .ref r) (C := RX2) (T := TX2) (N := 4) hx hb hts (by decide +kernel) hown hK hP (0) rfl rfl 0 (by decide) (hts (.fieldLink RX2 10 "VinegarLoft" "row" "LVinegarLoft$Row;") (by decide +kernel)) (fun _ h9 => h9) rfl dX2_setWarmth_21 ?_
      refine lv_iload_n hx hb dX2_setWarmth_24 rfl (lv_at hl 1 rfl) ?_
      refine va_put (D := D) (ci := 1) (v := .int x9) (ty := .int) (C := RX1) (T := TX1) (N := 5) hx hb hts (by decide +kernel) tyX1 tyX1_ok nmX1 hown hK hP hD hS (1) rfl rfl 2 (by decide) (hts (.fieldLink RX2 97 "VinegarLoft$Row" "warmth" "I") (by decide +kernel)) (fun _ h9 => h9) rfl (by decide +kernel) rfl rfl (Nat.le_of_ble_eq_true rfl) dX2_setWarmth_25 (fun H locs hP hD hS => ?_)
      have hP : va_P D vwCl ([(x, EX r t d yg)] ++ (rowW r la bs cA (nI n) x9 df q wd zs h ++ w3)) H := hP
      have hD : va_D A ([(x, EX r t d yg)] ++ (rowW r la bs cA (nI n) x9 df q wd zs h ++ w3)) := hD
      refine vx_ret ?_
      refine W.widen (k := 1) (n := 6) (Nat.le_of_ble_eq_true rfl) (Nat.le_of_ble_eq_true rfl) ?_
      exact W.vret hx hb hr (fun t9 ht9 hW => ⟨⟨(), rfl, (nbadR c1 c7), by rw [ht9]; exact hP, va_K.moved hW.alike hK, hD⟩, hS.F ht9⟩) hS.2.2 dX2_setWarmth_28
    · exact kx_throw (ik := 27) (is := 95) (ic := 31) (cls := xIAE) (text := "degrees out of range") hx hb hst hown hlocks (by decide) (hts (.classLink RX2 27 xIAE) (by decide +kernel)) (hts (.initialized xIAE) (by decide +kernel)) (by decide) (fun w h9 => hts w (List.mem_cons_of_mem _ (List.mem_append_right _ h9))) (by decide +kernel) (by decide +kernel) hX hS (hl.1.trans hml.symm) ht dX2_setWarmth_10 dX2_setWarmth_13 dX2_setWarmth_14 dX2_setWarmth_16 dX2_setWarmth_19 ⟨Nat.le_of_ble_eq_true rfl, Nat.le_of_ble_eq_true rfl, Nat.le_of_ble_eq_true rfl, Nat.le_of_ble_eq_true rfl⟩ (⟨rfl, Or.inr (fa_nle c7)⟩) hP hK hD (fun q h => h) (Nat.le_of_ble_eq_true rfl) (Nat.le_of_ble_eq_true rfl)
set_option maxHeartbeats 4000000 in
set_option maxRecDepth 100000 in
/-- bottles(kind) -/
theorem metX2_bottles (l : Launch) (hst : l.stackTraces = false) (D : va_G) (sz : Nat) (x r t d : Nat) (yg : Int32) (la : Nat) (bs : Nat → Nat) (cA cI : ClassId) (n : Nat) (hn : n ≤ 8) (wm df : Int32) (q : UInt64) (wd zs : Nat → Int32) (h : Nat → UInt64) (w4 : va_W) (dk : Nat → Int32) (x9 : Int32)  : vx_Met l yX2_bottles wsX2_bottles { frames := 6, cells := 1, slots := 6, locals := 82 } (Pt D [(cA, .object "VinegarLoft$Barrel"), (cI, .int)] [.ref x, .int x9] ([(x, EX r t d yg)] ++ (rowW r la bs cA (nI n) wm df q wd zs h ++ (w4 ++ [(d, ED cI dk)]))) sz) (va_Qi (fun (r9 : Int32) (_ : Unit) => (¬ badR 0 2 x9) ∧ r9 = dk x9.toNatClampNeg) (Bm D [(cA, .object "VinegarLoft$Barrel"), (cI, .int)] (va_A ([(x, EX r t d yg)] ++ (rowW r la bs cA (nI n) wm df q wd zs h ++ (w4 ++ [(d, ED cI dk)]))) sz) ([(x, EX r t d yg)] ++ (rowW r la bs cA (nI n) wm df q wd zs h ++ (w4 ++ [(d, ED cI dk)])))) (va_A ([(x, EX r t d yg)] ++ (rowW r la bs cA (nI n) wm df q wd zs h ++ (w4 ++ [(d, ED cI dk)]))) sz)) (XE (fun E => E = xIAE ∧ badR 0 2 x9) D [(cA, .object "VinegarLoft$Barrel"), (cI, .int)] (va_A ([(x, EX r t d yg)] ++ (rowW r la bs cA (nI n) wm df q wd zs h ++ (w4 ++ [(d, ED cI dk)]))) sz) ([(x, EX r t d yg)] ++ (rowW r la bs cA (nI n) wm df q wd zs h ++ (w4 ++ [(d, ED cI dk)])))) 1 6 (va_A ([(x, EX r t d yg)] ++ (rowW r la bs cA (nI n) wm df q wd zs h ++ (w4 ++ [(d, ED cI dk)]))) sz) := by
  refine vx_ofW (cc := cX2_bottles) (maxL := 2) (ret := (some .int)) (by decide) rfl ?_
  intro p e s m args below meth c s₁ B hml ht hv
  obtain ⟨rfl, hsz, hP, hK, hD0, hX⟩ := hv
  have hx := B.exec
  have hb := B.bytes
  have hr := B.returns
  have hts := atoms_spec (ws := wsX2_bottles) B.pre
  have hown : s.vm.findClass RX2 = some m.cls := findClass_of_methodNamed B.named
  have hlocks := B.notSynchronized
  subst hsz
  have hD := hD0.self (sz := s.heap.size)
  generalize hAe : va_A ([(x, EX r t d yg)] ++ (rowW r la bs cA (nI n) wm df q wd zs h ++ (w4 ++ [(d, ED cI dk)]))) s.heap.size = A at hD hX ⊢
  have hA : ∀ q : Nat, s.heap.size ≤ q → A q := fun q h => by rw [← hAe]; exact Or.inr h
  refine kW_H (fun H hH => ?_)
  have hP : va_P D vwCl ([(x, EX r t d yg)] ++ (rowW r la bs cA (nI n) wm df q wd zs h ++ (w4 ++ [(d, ED cI dk)]))) H := by rw [hH]; exact hP
  have hS : va_S A s.heap H [] := by rw [hH]; exact va_S.rf
  have hl := lv_entry ([.ref x, .int x9]) (n := 2) (Nat.le_of_ble_eq_true rfl)
  rw [lg_entry_eq]
  generalize (lg_sl ([.ref x, .int x9]) ++ List.replicate (2 - (lg_sl ([.ref x, .int x9])).length) Slot.unset).toArray = ls at hl ⊢
  have hl : lv_has ls 2 [(0, .ref x), (1, .int x9)] := hl
  refine lv_iload_n hx hb dX2_bottles_0 rfl (lv_at hl 1 rfl) ?_
  refine lv_if_lt (tgt := 9) hx hb dX2_bottles_1 (by decide) (fun c1 => ?_) (fun c1 => ?_)
  · exact kx_throw (ik := 27) (is := 118) (ic := 31) (cls := xIAE) (text := "no such kind of bottles") hx hb hst hown hlocks (by decide) (hts (.classLink RX2 27 xIAE) (by decide +kernel)) (hts (.initialized xIAE) (by decide +kernel)) (by decide) (fun w h9 => hts w (List.mem_cons_of_mem _ (List.mem_append_right _ h9))) (by decide +kernel) (by decide +kernel) hX hS (hl.1.trans hml.symm) ht dX2_bottles_9 dX2_bottles_12 dX2_bottles_13 dX2_bottles_15 dX2_bottles_18 ⟨Nat.le_of_ble_eq_true rfl, Nat.le_of_ble_eq_true rfl, Nat.le_of_ble_eq_true rfl, Nat.le_of_ble_eq_true rfl⟩ (⟨rfl, Or.inl c1⟩) hP hK hD (fun q h => h) (Nat.le_of_ble_eq_true rfl) (Nat.le_of_ble_eq_true rfl)
  · refine lv_iload_n hx hb dX2_bottles_4 rfl (lv_at hl 1 rfl) ?_
    refine lv_iconst (v := 3) hx hb dX2_bottles_5 (by decide) ?_
    refine lv_icmp_lt (tgt := 19) hx hb dX2_bottles_6 (by decide) (fun c6 => ?_) (fun c6 => ?_)
    · refine lv_aload_n hx hb dX2_bottles_19 rfl (lv_at hl 0 rfl) ?_
      refine va_get (D := D) (ci := 2) (v := .ref d) (C := RX2) (T := TX2) (N := 4) hx hb hts (by decide +kernel) hown hK hP (0) rfl rfl 2 (by decide) (hts (.fieldLink RX2 19 "VinegarLoft" "drawnByKind" "[I") (by decide +kernel)) (fun _ h9 => h9) rfl dX2_bottles_20 ?_
      refine lv_iload_n hx hb dX2_bottles_23 rfl (lv_at hl 1 rfl) ?_
      obtain ⟨j, hj, rfl⟩ := badI_not (n := 3) (by decide) c1 c6
      refine va_iald hx hb hK hP (1 + (10 + w4.length)) 1 lofW_d rfl (vp_in_nI hj (by decide)) dX2_bottles_24 ?_
      rw [nI_clamp (show j < 2 ^ 31 by omega)]
      refine vx_ret ?_
      refine W.widen (k := 1) (n := 6) (Nat.le_of_ble_eq_true rfl) (Nat.le_of_ble_eq_true rfl) ?_
      exact W.iret hx hb hr (fun t9 ht9 hW => ⟨⟨_, (), rfl, ⟨(nbadR c1 (by have h9 := (nI_leI (a := j) (b := 2) (by omega) (by decide)).mpr (by omega); exact h9)), rfl⟩, by rw [ht9]; exact hP, va_K.moved hW.alike hK, hD⟩, hS.F ht9⟩) hS.2.2 dX2_bottles_25
    · exact kx_throw (ik := 27) (is := 118) (ic := 31) (cls := xIAE) (text := "no such kind of bottles") hx hb hst hown hlocks (by decide) (hts (.classLink RX2 27 xIAE) (by decide +kernel)) (hts (.initialized xIAE) (by decide +kernel)) (by decide) (fun w h9 => hts w (List.mem_cons_of_mem _ (List.mem_append_right _ h9))) (by decide +kernel) (by decide +kernel) hX hS (hl.1.trans hml.symm) ht dX2_bottles_9 dX2_bottles_12 dX2_bottles_13 dX2_bottles_15 dX2_bottles_18 ⟨Nat.le_of_ble_eq_true rfl, Nat.le_of_ble_eq_true rfl, Nat.le_of_ble_eq_true rfl, Nat.le_of_ble_eq_true rfl⟩ (⟨rfl, Or.inr (by have h9 := fa_nlt c6; rw [Int32.le_iff_toInt_le] at h9; rw [Int32.lt_iff_toInt_lt]; exact Int.lt_of_lt_of_le (by decide) h9)⟩) hP hK hD (fun q h => h) (Nat.le_of_ble_eq_true rfl) (Nat.le_of_ble_eq_true rfl)
set_option maxHeartbeats 4000000 in
set_option maxRecDepth 100000 in
/-- barrelNumbered(number) -/
theorem metX2_barrelNumbered (l : Launch) (hst : l.stackTraces = false) (D : va_G) (sz : Nat) (x r t d : Nat) (yg : Int32) (la : Nat) (bs : Nat → Nat) (cA cI : ClassId) (n : Nat) (hn : n ≤ 8) (wm df : Int32) (q : UInt64) (wd zs : Nat → Int32) (h : Nat → UInt64) (w3 : va_W) (x9 : Int32)  : vx_Met l yX2_barrelNumbered wsX2_barrelNumbered { frames := 6, cells := 1, slots := 6, locals := 82 } (Pt D [(cA, .object "VinegarLoft$Barrel"), (cI, .int)] [.ref x, .int x9] ([(x, EX r t d yg)] ++ (rowW r la bs cA (nI n) wm df q wd zs h ++ w3)) sz) (va_Qr (fun (_ : Unit) => ¬ badI n x9) (fun _ a9 t9 => a9 = bs x9.toNatClampNeg ∧ va_P D vwCl ([(x, EX r t d yg)] ++ (rowW r la bs cA (nI n) wm df q wd zs h ++ w3)) t9.heap ∧ va_K D vwCl [(cA, .object "VinegarLoft$Barrel"), (cI, .int)] t9 ∧ va_D (va_A ([(x, EX r t d yg)] ++ (rowW r la bs cA (nI n) wm df q wd zs h ++ w3)) sz) ([(x, EX r t d yg)] ++ (rowW r la bs cA (nI n) wm df q wd zs h ++ w3))) (va_A ([(x, EX r t d yg)] ++ (rowW r la bs cA (nI n) wm df q wd zs h ++ w3)) sz)) (XE (fun E => E = xIOB ∧ badI n x9) D [(cA, .object "VinegarLoft$Barrel"), (cI, .int)] (va_A ([(x, EX r t d yg)] ++ (rowW r la bs cA (nI n) wm df q wd zs h ++ w3)) sz) ([(x, EX r t d yg)] ++ (rowW r la bs cA (nI n) wm df q wd zs h ++ w3))) 1 6 (va_A ([(x, EX r t d yg)] ++ (rowW r la bs cA (nI n) wm df q wd zs h ++ w3)) sz) := by
  refine vx_ofW (cc := cX2_barrelNumbered) (maxL := 2) (ret := (some (.object "VinegarLoft$Barrel"))) (by decide) rfl ?_
  intro p e s m args below meth c s₁ B hml ht hv
  obtain ⟨rfl, hsz, hP, hK, hD0, hX⟩ := hv
  have hx := B.exec
  have hb := B.bytes
  have hr := B.returns
  have hts := atoms_spec (ws := wsX2_barrelNumbered) B.pre
  have hown : s.vm.findClass RX2 = some m.cls := findClass_of_methodNamed B.named
  have hlocks := B.notSynchronized
  subst hsz
  have hD := hD0.self (sz := s.heap.size)
  generalize hAe : va_A ([(x, EX r t d yg)] ++ (rowW r la bs cA (nI n) wm df q wd zs h ++ w3)) s.heap.size = A at hD hX ⊢
  have hA : ∀ q : Nat, s.heap.size ≤ q → A q := fun q h => by rw [← hAe]; exact Or.inr h
  refine kW_H (fun H hH => ?_)
  have hP : va_P D vwCl ([(x, EX r t d yg)] ++ (rowW r la bs cA (nI n) wm df q wd zs h ++ w3)) H := by rw [hH]; exact hP
  have hS : va_S A s.heap H [] := by rw [hH]; exact va_S.rf
  have hl := lv_entry ([.ref x, .int x9]) (n := 2) (Nat.le_of_ble_eq_true rfl)
  rw [lg_entry_eq]
  generalize (lg_sl ([.ref x, .int x9]) ++ List.replicate (2 - (lg_sl ([.ref x, .int x9])).length) Slot.unset).toArray = ls at hl ⊢
  have hl : lv_has ls 2 [(0, .ref x), (1, .int x9)] := hl
  refine lv_iload_n hx hb dX2_barrelNumbered_0 rfl (lv_at hl 1 rfl) ?_
  refine lv_if_lt (tgt := 15) hx hb dX2_barrelNumbered_1 (by decide) (fun c1 => ?_) (fun c1 => ?_)
  · exact kx_throw (ik := 133) (is := 135) (ic := 137) (cls := xIOB) (text := "no such barrel") hx hb hst hown hlocks (by decide) (hts (.classLink RX2 133 xIOB) (by decide +kernel)) (hts (.initialized xIOB) (by decide +kernel)) (by decide) (fun w h9 => hts w (List.mem_cons_of_mem _ (List.mem_append_right _ h9))) (by decide +kernel) (by decide +kernel) hX hS (hl.1.trans hml.symm) ht dX2_barrelNumbered_15 dX2_barrelNumbered_18 dX2_barrelNumbered_19 dX2_barrelNumbered_21 dX2_barrelNumbered_24 ⟨Nat.le_of_ble_eq_true rfl, Nat.le_of_ble_eq_true rfl, Nat.le_of_ble_eq_true rfl, Nat.le_of_ble_eq_true rfl⟩ (⟨rfl, Or.inl c1⟩) hP hK hD (fun q h => h) (Nat.le_of_ble_eq_true rfl) (Nat.le_of_ble_eq_true rfl)
  · refine lv_iload_n hx hb dX2_barrelNumbered_4 rfl (lv_at hl 1 rfl) ?_
    refine lv_aload_n hx hb dX2_barrelNumbered_5 rfl (lv_at hl 0 rfl) ?_
    refine va_get (D := D) (ci := 2) (v := .ref r) (C := RX2) (T := TX2) (N := 4) hx hb hts (by decide +kernel) hown hK hP (0) rfl rfl 0 (by decide) (hts (.fieldLink RX2 10 "VinegarLoft" "row" "LVinegarLoft$Row;") (by decide +kernel)) (fun _ h9 => h9) rfl dX2_barrelNumbered_6 ?_
    refine va_get (D := D) (ci := 1) (v := .int (nI n)) (C := RX1) (T := TX1) (N := 5) hx hb hts (by decide +kernel) hown hK hP (1) rfl rfl 1 (by decide) (hts (.fieldLink RX2 100 "VinegarLoft$Row" "count" "I") (by decide +kernel)) (fun _ h9 => h9) rfl dX2_barrelNumbered_9 ?_
    refine lv_icmp_lt (tgt := 25) hx hb dX2_barrelNumbered_12 (by decide) (fun c12 => ?_) (fun c12 => ?_)
    · refine lv_aload_n hx hb dX2_barrelNumbered_25 rfl (lv_at hl 0 rfl) ?_
      refine va_get (D := D) (ci := 2) (v := .ref r) (C := RX2) (T := TX2) (N := 4) hx hb hts (by decide +kernel) hown hK hP (0) rfl rfl 0 (by decide) (hts (.fieldLink RX2 10 "VinegarLoft" "row" "LVinegarLoft$Row;") (by decide +kernel)) (fun _ h9 => h9) rfl dX2_barrelNumbered_26 ?_
      refine va_get (D := D) (ci := 1) (v := .ref la) (C := RX1) (T := TX1) (N := 5) hx hb hts (by decide +kernel) hown hK hP (1) rfl rfl 0 (by decide) (hts (.fieldLink RX2 138 "VinegarLoft$Row" "line" "[LVinegarLoft$Barrel;") (by decide +kernel)) (fun _ h9 => h9) rfl dX2_barrelNumbered_29 ?_
      refine lv_iload_n hx hb dX2_barrelNumbered_32 rfl (lv_at hl 1 rfl) ?_
      obtain ⟨j, hj, hx9⟩ := badI_not (n := n) (by omega) c1 c12
      refine kx_ald hx hb hK hP 2 0 rfl rfl (j := j) hx9 (by omega) dX2_barrelNumbered_33 ?_
      refine vx_ret ?_
      refine W.widen (k := 1) (n := 6) (Nat.le_of_ble_eq_true rfl) (Nat.le_of_ble_eq_true rfl) ?_
      exact W.aret hx hb hr (Or.inl ⟨_, rfl⟩) (Or.inr ⟨_, rfl⟩) (fun t9 ht9 hW => ⟨⟨(), _, rfl, (by rintro (h9 | h9); exact c1 h9; rw [Int32.le_iff_toInt_le] at h9; rw [Int32.lt_iff_toInt_lt] at c12; omega), by rw [hx9, nI_clamp (by omega)], by rw [ht9]; exact hP, va_K.moved hW.alike hK, hD⟩, hS.F ht9⟩) hS.2.2 dX2_barrelNumbered_34
    · exact kx_throw (ik := 133) (is := 135) (ic := 137) (cls := xIOB) (text := "no such barrel") hx hb hst hown hlocks (by decide) (hts (.classLink RX2 133 xIOB) (by decide +kernel)) (hts (.initialized xIOB) (by decide +kernel)) (by decide) (fun w h9 => hts w (List.mem_cons_of_mem _ (List.mem_append_right _ h9))) (by decide +kernel) (by decide +kernel) hX hS (hl.1.trans hml.symm) ht dX2_barrelNumbered_15 dX2_barrelNumbered_18 dX2_barrelNumbered_19 dX2_barrelNumbered_21 dX2_barrelNumbered_24 ⟨Nat.le_of_ble_eq_true rfl, Nat.le_of_ble_eq_true rfl, Nat.le_of_ble_eq_true rfl, Nat.le_of_ble_eq_true rfl⟩ (⟨rfl, Or.inr (fa_nlt c12)⟩) hP hK hD (fun q h => h) (Nat.le_of_ble_eq_true rfl) (Nat.le_of_ble_eq_true rfl)
set_option maxHeartbeats 4000000 in
set_option maxRecDepth 100000 in
/-- litresIn(barrel) -/
theorem metX2_litresIn (l : Launch) (hst : l.stackTraces = false) (D : va_G) (sz : Nat) (x r t d : Nat) (yg : Int32) (la : Nat) (bs : Nat → Nat) (cA cI : ClassId) (n : Nat) (hn : n ≤ 8) (wm df : Int32) (q : UInt64) (wd zs : Nat → Int32) (h : Nat → UInt64) (w3 : va_W) (x9 : Int32)  : vx_Met l yX2_litresIn wsX2_litresIn { frames := 7, cells := 1, slots := 6, locals := 103 } (Pt D [(cA, .object "VinegarLoft$Barrel"), (cI, .int)] [.ref x, .int x9] ([(x, EX r t d yg)] ++ (rowW r la bs cA (nI n) wm df q wd zs h ++ w3)) sz) (va_Qd (fun (r9 : UInt64) (_ : Unit) => (¬ badI n x9) ∧ r9 = h (x9.toNatClampNeg)) (Bm D [(cA, .object "VinegarLoft$Barrel"), (cI, .int)] (va_A ([(x, EX r t d yg)] ++ (rowW r la bs cA (nI n) wm df q wd zs h ++ w3)) sz) ([(x, EX r t d yg)] ++ (rowW r la bs cA (nI n) wm df q wd zs h ++ w3))) (va_A ([(x, EX r t d yg)] ++ (rowW r la bs cA (nI n) wm df q wd zs h ++ w3)) sz)) (XE (fun E => E = xIOB ∧ badI n x9) D [(cA, .object "VinegarLoft$Barrel"), (cI, .int)] (va_A ([(x, EX r t d yg)] ++ (rowW r la bs cA (nI n) wm df q wd zs h ++ w3)) sz) ([(x, EX r t d yg)] ++ (rowW r la bs cA (nI n) wm df q wd zs h ++ w3))) 1 6 (va_A ([(x, EX r t d yg)] ++ (rowW r la bs cA (nI n) wm df q wd zs h ++ w3)) sz) := by
  refine vx_ofW (cc := cX2_litresIn) (maxL := 2) (ret := (some .double)) (by decide) rfl ?_
  intro p e s m args below meth c s₁ B hml ht hv
  obtain ⟨rfl, hsz, hP, hK, hD0, hX⟩ := hv
  have hx := B.exec
  have hb := B.bytes
  have hr := B.returns
  have hts := atoms_spec (ws := wsX2_litresIn) B.pre
  have hown : s.vm.findClass RX2 = some m.cls := findClass_of_methodNamed B.named
  have hlocks := B.notSynchronized
  subst hsz
  have hD := hD0.self (sz := s.heap.size)
  generalize hAe : va_A ([(x, EX r t d yg)] ++ (rowW r la bs cA (nI n) wm df q wd zs h ++ w3)) s.heap.size = A at hD hX ⊢
  have hA : ∀ q : Nat, s.heap.size ≤ q → A q := fun q h => by rw [← hAe]; exact Or.inr h
  refine kW_H (fun H hH => ?_)
  have hP : va_P D vwCl ([(x, EX r t d yg)] ++ (rowW r la bs cA (nI n) wm df q wd zs h ++ w3)) H := by rw [hH]; exact hP
  have hS : va_S A s.heap H [] := by rw [hH]; exact va_S.rf
  have hl := lv_entry ([.ref x, .int x9]) (n := 2) (Nat.le_of_ble_eq_true rfl)
  rw [lg_entry_eq]
  generalize (lg_sl ([.ref x, .int x9]) ++ List.replicate (2 - (lg_sl ([.ref x, .int x9])).length) Slot.unset).toArray = ls at hl ⊢
  have hl : lv_has ls 2 [(0, .ref x), (1, .int x9)] := hl
  refine lv_aload_n hx hb dX2_litresIn_0 rfl (lv_at hl 0 rfl) ?_
  refine lv_iload_n hx hb dX2_litresIn_1 rfl (lv_at hl 1 rfl) ?_
  have hPm : va_P D vwCl ([(x, EX r t d yg)] ++ (rowW r la bs cA (nI n) wm df q wd zs h ++ w3)) H := hP
  have hDm : va_D A ([(x, EX r t d yg)] ++ (rowW r la bs cA (nI n) wm df q wd zs h ++ w3)) := hD
  have hX9 : XP A s H := hX.kept hS.2.1
  have hA9 : ∀ q : Nat, H.size ≤ q → A q := fun q h9 => hA q (Nat.le_trans hS.1 h9)
  refine kq_r (w1 := []) (w2 := [(x, EX r t d yg)] ++ (rowW r la bs cA (nI n) wm df q wd zs h ++ w3)) (w3 := []) (vx_runV (As := [.int x9]) (rest := []) ⟨hx, hb, hml, hown, hts⟩ (metX2_barrelNumbered l hst D H.size x r t d yg la bs cA cI n hn wm df q wd zs h w3 x9) (cwV 1 hts gX2_litresIn_X2_barrelNumbered rfl rfl rfl (by decide +kernel) ⟨Nat.le_of_ble_eq_true rfl, Nat.le_of_ble_eq_true rfl⟩) (ptV 2 0 RX2 TX2 4 rfl rfl hPm (hK.sub [0, 1] rfl) hDm hX9 hA9) rfl rfl hl.1 rfl (lv_room (Nat.le_of_ble_eq_true rfl)) dX2_litresIn_2 ⟨Nat.le_of_ble_eq_true rfl, Nat.le_of_ble_eq_true rfl⟩) (by rw [List.nil_append, List.append_nil]; exact hP) (by rw [List.nil_append, List.append_nil]; exact hD) hS hA (fun E ce q9 H locs hB hP hD hS hce hcv hcl => ?_) (fun H locs hok hP hD hS => ?_)
  · rw [List.nil_append, List.append_nil] at hP hD
    exact kx_out ht hlocks hce hcv hcl hB hP hK hD hS (fun q h => h) (Nat.le_of_ble_eq_true rfl) (Nat.le_of_ble_eq_true rfl)
  rw [List.nil_append, List.append_nil] at hP hD
  obtain ⟨j, hj, hx9⟩ := badI_not (n := n) (by omega) (fun h9 => hok (Or.inl h9)) (Classical.byContradiction fun h9 => hok (Or.inr (fa_nlt h9)))
  rw [show x9.toNatClampNeg = j by rw [hx9]; exact nI_clamp (by omega)]
  refine va_get (D := D) (ci := 0) (v := .double (h j)) (C := RX0) (T := TX0) (N := 6) hx hb hts (by decide +kernel) hown hK hP (1 + (2 + j)) (lofW_b (show j < 8 by omega)) rfl 2 (by decide) (hts (.fieldLink RX2 86 "VinegarLoft$Barrel" "litres" "D") (by decide +kernel)) (fun _ h9 => h9) rfl dX2_litresIn_5 ?_
  refine vx_ret ?_
  refine W.widen (k := 1) (n := 6) (Nat.le_of_ble_eq_true rfl) (Nat.le_of_ble_eq_true rfl) ?_
  exact W.dret hx hb hr (fun t9 ht9 hW => ⟨⟨_, (), rfl, ⟨hok, rfl⟩, by rw [ht9]; exact hP, va_K.moved hW.alike hK, hD⟩, hS.F ht9⟩) hS.2.2 dX2_litresIn_8
set_option maxHeartbeats 4000000 in
set_option maxRecDepth 100000 in
/-- ageOf(barrel) -/
theorem metX2_ageOf (l : Launch) (hst : l.stackTraces = false) (D : va_G) (sz : Nat) (x r t d : Nat) (yg : Int32) (la : Nat) (bs : Nat → Nat) (cA cI : ClassId) (n : Nat) (hn : n ≤ 8) (wm df : Int32) (q : UInt64) (wd zs : Nat → Int32) (h : Nat → UInt64) (w3 : va_W) (x9 : Int32)  : vx_Met l yX2_ageOf wsX2_ageOf { frames := 7, cells := 1, slots := 6, locals := 103 } (Pt D [(cA, .object "VinegarLoft$Barrel"), (cI, .int)] [.ref x, .int x9] ([(x, EX r t d yg)] ++ (rowW r la bs cA (nI n) wm df q wd zs h ++ w3)) sz) (va_Qd (fun (r9 : UInt64) (_ : Unit) => (¬ badI n x9) ∧ r9 = h (8 + x9.toNatClampNeg)) (Bm D [(cA, .object "VinegarLoft$Barrel"), (cI, .int)] (va_A ([(x, EX r t d yg)] ++ (rowW r la bs cA (nI n) wm df q wd zs h ++ w3)) sz) ([(x, EX r t d yg)] ++ (rowW r la bs cA (nI n) wm df q wd zs h ++ w3))) (va_A ([(x, EX r t d yg)] ++ (rowW r la bs cA (nI n) wm df q wd zs h ++ w3)) sz)) (XE (fun E => E = xIOB ∧ badI n x9) D [(cA, .object "VinegarLoft$Barrel"), (cI, .int)] (va_A ([(x, EX r t d yg)] ++ (rowW r la bs cA (nI n) wm df q wd zs h ++ w3)) sz) ([(x, EX r t d yg)] ++ (rowW r la bs cA (nI n) wm df q wd zs h ++ w3))) 1 6 (va_A ([(x, EX r t d yg)] ++ (rowW r la bs cA (nI n) wm df q wd zs h ++ w3)) sz) := by
  refine vx_ofW (cc := cX2_ageOf) (maxL := 2) (ret := (some .double)) (by decide) rfl ?_
  intro p e s m args below meth c s₁ B hml ht hv
  obtain ⟨rfl, hsz, hP, hK, hD0, hX⟩ := hv
  have hx := B.exec
  have hb := B.bytes
  have hr := B.returns
  have hts := atoms_spec (ws := wsX2_ageOf) B.pre
  have hown : s.vm.findClass RX2 = some m.cls := findClass_of_methodNamed B.named
  have hlocks := B.notSynchronized
  subst hsz
  have hD := hD0.self (sz := s.heap.size)
  generalize hAe : va_A ([(x, EX r t d yg)] ++ (rowW r la bs cA (nI n) wm df q wd zs h ++ w3)) s.heap.size = A at hD hX ⊢
  have hA : ∀ q : Nat, s.heap.size ≤ q → A q := fun q h => by rw [← hAe]; exact Or.inr h
  refine kW_H (fun H hH => ?_)
  have hP : va_P D vwCl ([(x, EX r t d yg)] ++ (rowW r la bs cA (nI n) wm df q wd zs h ++ w3)) H := by rw [hH]; exact hP
  have hS : va_S A s.heap H [] := by rw [hH]; exact va_S.rf
  have hl := lv_entry ([.ref x, .int x9]) (n := 2) (Nat.le_of_ble_eq_true rfl)
  rw [lg_entry_eq]
  generalize (lg_sl ([.ref x, .int x9]) ++ List.replicate (2 - (lg_sl ([.ref x, .int x9])).length) Slot.unset).toArray = ls at hl ⊢
  have hl : lv_has ls 2 [(0, .ref x), (1, .int x9)] := hl
  refine lv_aload_n hx hb dX2_ageOf_0 rfl (lv_at hl 0 rfl) ?_
  refine lv_iload_n hx hb dX2_ageOf_1 rfl (lv_at hl 1 rfl) ?_
  have hPm : va_P D vwCl ([(x, EX r t d yg)] ++ (rowW r la bs cA (nI n) wm df q wd zs h ++ w3)) H := hP
  have hDm : va_D A ([(x, EX r t d yg)] ++ (rowW r la bs cA (nI n) wm df q wd zs h ++ w3)) := hD
  have hX9 : XP A s H := hX.kept hS.2.1
  have hA9 : ∀ q : Nat, H.size ≤ q → A q := fun q h9 => hA q (Nat.le_trans hS.1 h9)
  refine kq_r (w1 := []) (w2 := [(x, EX r t d yg)] ++ (rowW r la bs cA (nI n) wm df q wd zs h ++ w3)) (w3 := []) (vx_runV (As := [.int x9]) (rest := []) ⟨hx, hb, hml, hown, hts⟩ (metX2_barrelNumbered l hst D H.size x r t d yg la bs cA cI n hn wm df q wd zs h w3 x9) (cwV 1 hts gX2_ageOf_X2_barrelNumbered rfl rfl rfl (by decide +kernel) ⟨Nat.le_of_ble_eq_true rfl, Nat.le_of_ble_eq_true rfl⟩) (ptV 2 0 RX2 TX2 4 rfl rfl hPm (hK.sub [0, 1] rfl) hDm hX9 hA9) rfl rfl hl.1 rfl (lv_room (Nat.le_of_ble_eq_true rfl)) dX2_ageOf_2 ⟨Nat.le_of_ble_eq_true rfl, Nat.le_of_ble_eq_true rfl⟩) (by rw [List.nil_append, List.append_nil]; exact hP) (by rw [List.nil_append, List.append_nil]; exact hD) hS hA (fun E ce q9 H locs hB hP hD hS hce hcv hcl => ?_) (fun H locs hok hP hD hS => ?_)
  · rw [List.nil_append, List.append_nil] at hP hD
    exact kx_out ht hlocks hce hcv hcl hB hP hK hD hS (fun q h => h) (Nat.le_of_ble_eq_true rfl) (Nat.le_of_ble_eq_true rfl)
  rw [List.nil_append, List.append_nil] at hP hD
  obtain ⟨j, hj, hx9⟩ := badI_not (n := n) (by omega) (fun h9 => hok (Or.inl h9)) (Classical.byContradiction fun h9 => hok (Or.inr (fa_nlt h9)))
  rw [show x9.toNatClampNeg = j by rw [hx9]; exact nI_clamp (by omega)]
  refine va_get (D := D) (ci := 0) (v := .double (h (8 + j))) (C := RX0) (T := TX0) (N := 6) hx hb hts (by decide +kernel) hown hK hP (1 + (2 + j)) (lofW_b (show j < 8 by omega)) rfl 3 (by decide) (hts (.fieldLink RX2 103 "VinegarLoft$Barrel" "age" "D") (by decide +kernel)) (fun _ h9 => h9) rfl dX2_ageOf_5 ?_
  refine vx_ret ?_
  refine W.widen (k := 1) (n := 6) (Nat.le_of_ble_eq_true rfl) (Nat.le_of_ble_eq_true rfl) ?_
  exact W.dret hx hb hr (fun t9 ht9 hW => ⟨⟨_, (), rfl, ⟨hok, rfl⟩, by rw [ht9]; exact hP, va_K.moved hW.alike hK, hD⟩, hS.F ht9⟩) hS.2.2 dX2_ageOf_8
set_option maxHeartbeats 4000000 in
set_option maxRecDepth 100000 in
/-- acidOf(barrel) -/
theorem metX2_acidOf (l : Launch) (hst : l.stackTraces = false) (D : va_G) (sz : Nat) (x r t d : Nat) (yg : Int32) (la : Nat) (bs : Nat → Nat) (cA cI : ClassId) (n : Nat) (hn : n ≤ 8) (wm df : Int32) (q : UInt64) (wd zs : Nat → Int32) (h : Nat → UInt64) (w3 : va_W) (x9 : Int32)  : vx_Met l yX2_acidOf wsX2_acidOf { frames := 7, cells := 1, slots := 6, locals := 103 } (Pt D [(cA, .object "VinegarLoft$Barrel"), (cI, .int)] [.ref x, .int x9] ([(x, EX r t d yg)] ++ (rowW r la bs cA (nI n) wm df q wd zs h ++ w3)) sz) (va_Qd (fun (r9 : UInt64) (_ : Unit) => (¬ badI n x9) ∧ r9 = h (16 + x9.toNatClampNeg)) (Bm D [(cA, .object "VinegarLoft$Barrel"), (cI, .int)] (va_A ([(x, EX r t d yg)] ++ (rowW r la bs cA (nI n) wm df q wd zs h ++ w3)) sz) ([(x, EX r t d yg)] ++ (rowW r la bs cA (nI n) wm df q wd zs h ++ w3))) (va_A ([(x, EX r t d yg)] ++ (rowW r la bs cA (nI n) wm df q wd zs h ++ w3)) sz)) (XE (fun E => E = xIOB ∧ badI n x9) D [(cA, .object "VinegarLoft$Barrel"), (cI, .int)] (va_A ([(x, EX r t d yg)] ++ (rowW r la bs cA (nI n) wm df q wd zs h ++ w3)) sz) ([(x, EX r t d yg)] ++ (rowW r la bs cA (nI n) wm df q wd zs h ++ w3))) 1 6 (va_A ([(x, EX r t d yg)] ++ (rowW r la bs cA (nI n) wm df q wd zs h ++ w3)) sz) := by
  refine vx_ofW (cc := cX2_acidOf) (maxL := 2) (ret := (some .double)) (by decide) rfl ?_
  intro p e s m args below meth c s₁ B hml ht hv
  obtain ⟨rfl, hsz, hP, hK, hD0, hX⟩ := hv
  have hx := B.exec
  have hb := B.bytes
  have hr := B.returns
  have hts := atoms_spec (ws := wsX2_acidOf) B.pre
  have hown : s.vm.findClass RX2 = some m.cls := findClass_of_methodNamed B.named
  have hlocks := B.notSynchronized
  subst hsz
  have hD := hD0.self (sz := s.heap.size)
  generalize hAe : va_A ([(x, EX r t d yg)] ++ (rowW r la bs cA (nI n) wm df q wd zs h ++ w3)) s.heap.size = A at hD hX ⊢
  have hA : ∀ q : Nat, s.heap.size ≤ q → A q := fun q h => by rw [← hAe]; exact Or.inr h
  refine kW_H (fun H hH => ?_)
  have hP : va_P D vwCl ([(x, EX r t d yg)] ++ (rowW r la bs cA (nI n) wm df q wd zs h ++ w3)) H := by rw [hH]; exact hP
  have hS : va_S A s.heap H [] := by rw [hH]; exact va_S.rf
  have hl := lv_entry ([.ref x, .int x9]) (n := 2) (Nat.le_of_ble_eq_true rfl)
  rw [lg_entry_eq]
  generalize (lg_sl ([.ref x, .int x9]) ++ List.replicate (2 - (lg_sl ([.ref x, .int x9])).length) Slot.unset).toArray = ls at hl ⊢
  have hl : lv_has ls 2 [(0, .ref x), (1, .int x9)] := hl
  refine lv_aload_n hx hb dX2_acidOf_0 rfl (lv_at hl 0 rfl) ?_
  refine lv_iload_n hx hb dX2_acidOf_1 rfl (lv_at hl 1 rfl) ?_
  have hPm : va_P D vwCl ([(x, EX r t d yg)] ++ (rowW r la bs cA (nI n) wm df q wd zs h ++ w3)) H := hP
  have hDm : va_D A ([(x, EX r t d yg)] ++ (rowW r la bs cA (nI n) wm df q wd zs h ++ w3)) := hD
  have hX9 : XP A s H := hX.kept hS.2.1
  have hA9 : ∀ q : Nat, H.size ≤ q → A q := fun q h9 => hA q (Nat.le_trans hS.1 h9)
  refine kq_r (w1 := []) (w2 := [(x, EX r t d yg)] ++ (rowW r la bs cA (nI n) wm df q wd zs h ++ w3)) (w3 := []) (vx_runV (As := [.int x9]) (rest := []) ⟨hx, hb, hml, hown, hts⟩ (metX2_barrelNumbered l hst D H.size x r t d yg la bs cA cI n hn wm df q wd zs h w3 x9) (cwV 1 hts gX2_acidOf_X2_barrelNumbered rfl rfl rfl (by decide +kernel) ⟨Nat.le_of_ble_eq_true rfl, Nat.le_of_ble_eq_true rfl⟩) (ptV 2 0 RX2 TX2 4 rfl rfl hPm (hK.sub [0, 1] rfl) hDm hX9 hA9) rfl rfl hl.1 rfl (lv_room (Nat.le_of_ble_eq_true rfl)) dX2_acidOf_2 ⟨Nat.le_of_ble_eq_true rfl, Nat.le_of_ble_eq_true rfl⟩) (by rw [List.nil_append, List.append_nil]; exact hP) (by rw [List.nil_append, List.append_nil]; exact hD) hS hA (fun E ce q9 H locs hB hP hD hS hce hcv hcl => ?_) (fun H locs hok hP hD hS => ?_)
  · rw [List.nil_append, List.append_nil] at hP hD
    exact kx_out ht hlocks hce hcv hcl hB hP hK hD hS (fun q h => h) (Nat.le_of_ble_eq_true rfl) (Nat.le_of_ble_eq_true rfl)
  rw [List.nil_append, List.append_nil] at hP hD
  obtain ⟨j, hj, hx9⟩ := badI_not (n := n) (by omega) (fun h9 => hok (Or.inl h9)) (Classical.byContradiction fun h9 => hok (Or.inr (fa_nlt h9)))
  rw [show x9.toNatClampNeg = j by rw [hx9]; exact nI_clamp (by omega)]
  refine va_get (D := D) (ci := 0) (v := .double (h (16 + j))) (C := RX0) (T := TX0) (N := 6) hx hb hts (by decide +kernel) hown hK hP (1 + (2 + j)) (lofW_b (show j < 8 by omega)) rfl 4 (by decide) (hts (.fieldLink RX2 106 "VinegarLoft$Barrel" "acid" "D") (by decide +kernel)) (fun _ h9 => h9) rfl dX2_acidOf_5 ?_
  refine vx_ret ?_
  refine W.widen (k := 1) (n := 6) (Nat.le_of_ble_eq_true rfl) (Nat.le_of_ble_eq_true rfl) ?_
  exact W.dret hx hb hr (fun t9 ht9 hW => ⟨⟨_, (), rfl, ⟨hok, rfl⟩, by rw [ht9]; exact hP, va_K.moved hW.alike hK, hD⟩, hS.F ht9⟩) hS.2.2 dX2_acidOf_8
set_option maxHeartbeats 4000000 in
set_option maxRecDepth 100000 in
/-- sugarOf(barrel) -/
theorem metX2_sugarOf (l : Launch) (hst : l.stackTraces = false) (D : va_G) (sz : Nat) (x r t d : Nat) (yg : Int32) (la : Nat) (bs : Nat → Nat) (cA cI : ClassId) (n : Nat) (hn : n ≤ 8) (wm df : Int32) (q : UInt64) (wd zs : Nat → Int32) (h : Nat → UInt64) (w3 : va_W) (x9 : Int32)  : vx_Met l yX2_sugarOf wsX2_sugarOf { frames := 7, cells := 1, slots := 6, locals := 103 } (Pt D [(cA, .object "VinegarLoft$Barrel"), (cI, .int)] [.ref x, .int x9] ([(x, EX r t d yg)] ++ (rowW r la bs cA (nI n) wm df q wd zs h ++ w3)) sz) (va_Qd (fun (r9 : UInt64) (_ : Unit) => (¬ badI n x9) ∧ r9 = h (24 + x9.toNatClampNeg)) (Bm D [(cA, .object "VinegarLoft$Barrel"), (cI, .int)] (va_A ([(x, EX r t d yg)] ++ (rowW r la bs cA (nI n) wm df q wd zs h ++ w3)) sz) ([(x, EX r t d yg)] ++ (rowW r la bs cA (nI n) wm df q wd zs h ++ w3))) (va_A ([(x, EX r t d yg)] ++ (rowW r la bs cA (nI n) wm df q wd zs h ++ w3)) sz)) (XE (fun E => E = xIOB ∧ badI n x9) D [(cA, .object "VinegarLoft$Barrel"), (cI, .int)] (va_A ([(x, EX r t d yg)] ++ (rowW r la bs cA (nI n) wm df q wd zs h ++ w3)) sz) ([(x, EX r t d yg)] ++ (rowW r la bs cA (nI n) wm df q wd zs h ++ w3))) 1 6 (va_A ([(x, EX r t d yg)] ++ (rowW r la bs cA (nI n) wm df q wd zs h ++ w3)) sz) := by
  refine vx_ofW (cc := cX2_sugarOf) (maxL := 2) (ret := (some .double)) (by decide) rfl ?_
  intro p e s m args below meth c s₁ B hml ht hv
  obtain ⟨rfl, hsz, hP, hK, hD0, hX⟩ := hv
  have hx := B.exec
  have hb := B.bytes
  have hr := B.returns
  have hts := atoms_spec (ws := wsX2_sugarOf) B.pre
  have hown : s.vm.findClass RX2 = some m.cls := findClass_of_methodNamed B.named
  have hlocks := B.notSynchronized
  subst hsz
  have hD := hD0.self (sz := s.heap.size)
  generalize hAe : va_A ([(x, EX r t d yg)] ++ (rowW r la bs cA (nI n) wm df q wd zs h ++ w3)) s.heap.size = A at hD hX ⊢
  have hA : ∀ q : Nat, s.heap.size ≤ q → A q := fun q h => by rw [← hAe]; exact Or.inr h
  refine kW_H (fun H hH => ?_)
  have hP : va_P D vwCl ([(x, EX r t d yg)] ++ (rowW r la bs cA (nI n) wm df q wd zs h ++ w3)) H := by rw [hH]; exact hP
  have hS : va_S A s.heap H [] := by rw [hH]; exact va_S.rf
  have hl := lv_entry ([.ref x, .int x9]) (n := 2) (Nat.le_of_ble_eq_true rfl)
  rw [lg_entry_eq]
  generalize (lg_sl ([.ref x, .int x9]) ++ List.replicate (2 - (lg_sl ([.ref x, .int x9])).length) Slot.unset).toArray = ls at hl ⊢
  have hl : lv_has ls 2 [(0, .ref x), (1, .int x9)] := hl
  refine lv_aload_n hx hb dX2_sugarOf_0 rfl (lv_at hl 0 rfl) ?_
  refine lv_iload_n hx hb dX2_sugarOf_1 rfl (lv_at hl 1 rfl) ?_
  have hPm : va_P D vwCl ([(x, EX r t d yg)] ++ (rowW r la bs cA (nI n) wm df q wd zs h ++ w3)) H := hP
  have hDm : va_D A ([(x, EX r t d yg)] ++ (rowW r la bs cA (nI n) wm df q wd zs h ++ w3)) := hD
  have hX9 : XP A s H := hX.kept hS.2.1
  have hA9 : ∀ q : Nat, H.size ≤ q → A q := fun q h9 => hA q (Nat.le_trans hS.1 h9)
  refine kq_r (w1 := []) (w2 := [(x, EX r t d yg)] ++ (rowW r la bs cA (nI n) wm df q wd zs h ++ w3)) (w3 := []) (vx_runV (As := [.int x9]) (rest := []) ⟨hx, hb, hml, hown, hts⟩ (metX2_barrelNumbered l hst D H.size x r t d yg la bs cA cI n hn wm df q wd zs h w3 x9) (cwV 1 hts gX2_sugarOf_X2_barrelNumbered rfl rfl rfl (by decide +kernel) ⟨Nat.le_of_ble_eq_true rfl, Nat.le_of_ble_eq_true rfl⟩) (ptV 2 0 RX2 TX2 4 rfl rfl hPm (hK.sub [0, 1] rfl) hDm hX9 hA9) rfl rfl hl.1 rfl (lv_room (Nat.le_of_ble_eq_true rfl)) dX2_sugarOf_2 ⟨Nat.le_of_ble_eq_true rfl, Nat.le_of_ble_eq_true rfl⟩) (by rw [List.nil_append, List.append_nil]; exact hP) (by rw [List.nil_append, List.append_nil]; exact hD) hS hA (fun E ce q9 H locs hB hP hD hS hce hcv hcl => ?_) (fun H locs hok hP hD hS => ?_)
  · rw [List.nil_append, List.append_nil] at hP hD
    exact kx_out ht hlocks hce hcv hcl hB hP hK hD hS (fun q h => h) (Nat.le_of_ble_eq_true rfl) (Nat.le_of_ble_eq_true rfl)
  rw [List.nil_append, List.append_nil] at hP hD
  obtain ⟨j, hj, hx9⟩ := badI_not (n := n) (by omega) (fun h9 => hok (Or.inl h9)) (Classical.byContradiction fun h9 => hok (Or.inr (fa_nlt h9)))
  rw [show x9.toNatClampNeg = j by rw [hx9]; exact nI_clamp (by omega)]
  refine va_get (D := D) (ci := 0) (v := .double (h (24 + j))) (C := RX0) (T := TX0) (N := 6) hx hb hts (by decide +kernel) hown hK hP (1 + (2 + j)) (lofW_b (show j < 8 by omega)) rfl 5 (by decide) (hts (.fieldLink RX2 109 "VinegarLoft$Barrel" "sugar" "D") (by decide +kernel)) (fun _ h9 => h9) rfl dX2_sugarOf_5 ?_
  refine vx_ret ?_
  refine W.widen (k := 1) (n := 6) (Nat.le_of_ble_eq_true rfl) (Nat.le_of_ble_eq_true rfl) ?_
  exact W.dret hx hb hr (fun t9 ht9 hW => ⟨⟨_, (), rfl, ⟨hok, rfl⟩, by rw [ht9]; exact hP, va_K.moved hW.alike hK, hD⟩, hS.F ht9⟩) hS.2.2 dX2_sugarOf_8
set_option maxHeartbeats 4000000 in
set_option maxRecDepth 100000 in
/-- tasteOf(barrel) -/
theorem metX2_tasteOf (l : Launch) (hst : l.stackTraces = false) (D : va_G) (sz : Nat) (x r t d : Nat) (yg : Int32) (la : Nat) (bs : Nat → Nat) (cA cI : ClassId) (n : Nat) (hn : n ≤ 8) (wm df : Int32) (q : UInt64) (wd zs : Nat → Int32) (h : Nat → UInt64) (w3 : va_W) (x9 : Int32) (hT : ∀ j, j < n → FP.dcmp (h j) 0 ≠ none ∧ (FP.dcmp (h j) 0 = some .gt → tasok (h (8 + j)) (h (16 + j)) (h (24 + j)))) : vx_Met l yX2_tasteOf wsX2_tasteOf { frames := 7, cells := 1, slots := 6, locals := 103 } (Pt D [(cA, .object "VinegarLoft$Barrel"), (cI, .int)] [.ref x, .int x9] ([(x, EX r t d yg)] ++ (rowW r la bs cA (nI n) wm df q wd zs h ++ w3)) sz) (va_Qd (fun (r9 : UInt64) (_ : Unit) => (¬ badI n x9) ∧ r9 = (let j := x9.toNatClampNeg; tasv (h j) (h (8 + j)) (h (16 + j)) (h (24 + j)))) (Bm D [(cA, .object "VinegarLoft$Barrel"), (cI, .int)] (va_A ([(x, EX r t d yg)] ++ (rowW r la bs cA (nI n) wm df q wd zs h ++ w3)) sz) ([(x, EX r t d yg)] ++ (rowW r la bs cA (nI n) wm df q wd zs h ++ w3))) (va_A ([(x, EX r t d yg)] ++ (rowW r la bs cA (nI n) wm df q wd zs h ++ w3)) sz)) (XE (fun E => E = xIOB ∧ badI n x9) D [(cA, .object "VinegarLoft$Barrel"), (cI, .int)] (va_A ([(x, EX r t d yg)] ++ (rowW r la bs cA (nI n) wm df q wd zs h ++ w3)) sz) ([(x, EX r t d yg)] ++ (rowW r la bs cA (nI n) wm df q wd zs h ++ w3))) 1 6 (va_A ([(x, EX r t d yg)] ++ (rowW r la bs cA (nI n) wm df q wd zs h ++ w3)) sz) := by
  refine vx_ofW (cc := cX2_tasteOf) (maxL := 2) (ret := (some .double)) (by decide) rfl ?_
  intro p e s m args below meth c s₁ B hml ht hv
  obtain ⟨rfl, hsz, hP, hK, hD0, hX⟩ := hv
  have hx := B.exec
  have hb := B.bytes
  have hr := B.returns
  have hts := atoms_spec (ws := wsX2_tasteOf) B.pre
  have hown : s.vm.findClass RX2 = some m.cls := findClass_of_methodNamed B.named
  have hlocks := B.notSynchronized
  subst hsz
  have hD := hD0.self (sz := s.heap.size)
  generalize hAe : va_A ([(x, EX r t d yg)] ++ (rowW r la bs cA (nI n) wm df q wd zs h ++ w3)) s.heap.size = A at hD hX ⊢
  have hA : ∀ q : Nat, s.heap.size ≤ q → A q := fun q h => by rw [← hAe]; exact Or.inr h
  refine kW_H (fun H hH => ?_)
  have hP : va_P D vwCl ([(x, EX r t d yg)] ++ (rowW r la bs cA (nI n) wm df q wd zs h ++ w3)) H := by rw [hH]; exact hP
  have hS : va_S A s.heap H [] := by rw [hH]; exact va_S.rf
  have hl := lv_entry ([.ref x, .int x9]) (n := 2) (Nat.le_of_ble_eq_true rfl)
  rw [lg_entry_eq]
  generalize (lg_sl ([.ref x, .int x9]) ++ List.replicate (2 - (lg_sl ([.ref x, .int x9])).length) Slot.unset).toArray = ls at hl ⊢
  have hl : lv_has ls 2 [(0, .ref x), (1, .int x9)] := hl
  refine lv_aload_n hx hb dX2_tasteOf_0 rfl (lv_at hl 0 rfl) ?_
  refine lv_iload_n hx hb dX2_tasteOf_1 rfl (lv_at hl 1 rfl) ?_
  have hPm : va_P D vwCl ([(x, EX r t d yg)] ++ (rowW r la bs cA (nI n) wm df q wd zs h ++ w3)) H := hP
  have hDm : va_D A ([(x, EX r t d yg)] ++ (rowW r la bs cA (nI n) wm df q wd zs h ++ w3)) := hD
  have hX9 : XP A s H := hX.kept hS.2.1
  have hA9 : ∀ q : Nat, H.size ≤ q → A q := fun q h9 => hA q (Nat.le_trans hS.1 h9)
  refine kq_r (w1 := []) (w2 := [(x, EX r t d yg)] ++ (rowW r la bs cA (nI n) wm df q wd zs h ++ w3)) (w3 := []) (vx_runV (As := [.int x9]) (rest := []) ⟨hx, hb, hml, hown, hts⟩ (metX2_barrelNumbered l hst D H.size x r t d yg la bs cA cI n hn wm df q wd zs h w3 x9) (cwV 1 hts gX2_tasteOf_X2_barrelNumbered rfl rfl rfl (by decide +kernel) ⟨Nat.le_of_ble_eq_true rfl, Nat.le_of_ble_eq_true rfl⟩) (ptV 2 0 RX2 TX2 4 rfl rfl hPm (hK.sub [0, 1] rfl) hDm hX9 hA9) rfl rfl hl.1 rfl (lv_room (Nat.le_of_ble_eq_true rfl)) dX2_tasteOf_2 ⟨Nat.le_of_ble_eq_true rfl, Nat.le_of_ble_eq_true rfl⟩) (by rw [List.nil_append, List.append_nil]; exact hP) (by rw [List.nil_append, List.append_nil]; exact hD) hS hA (fun E ce q9 H locs hB hP hD hS hce hcv hcl => ?_) (fun H locs hok hP hD hS => ?_)
  · rw [List.nil_append, List.append_nil] at hP hD
    exact kx_out ht hlocks hce hcv hcl hB hP hK hD hS (fun q h => h) (Nat.le_of_ble_eq_true rfl) (Nat.le_of_ble_eq_true rfl)
  rw [List.nil_append, List.append_nil] at hP hD
  obtain ⟨j, hj, hx9⟩ := badI_not (n := n) (by omega) (fun h9 => hok (Or.inl h9)) (Classical.byContradiction fun h9 => hok (Or.inr (fa_nlt h9)))
  rw [show x9.toNatClampNeg = j by rw [hx9]; exact nI_clamp (by omega)]
  refine kr_d (W.runV (As := []) (rest := []) ⟨hx, hb, hml, hown, hts⟩ (metX0_taste l D (bs j) (wd j) (zs j) (h j) (h (8 + j)) (h (16 + j)) (h (24 + j)) (hT j hj).1 (hT j hj).2) (cwV 0 hts gX2_tasteOf_X0_taste rfl rfl rfl (by decide +kernel) ⟨Nat.le_of_ble_eq_true rfl, Nat.le_of_ble_eq_true rfl⟩) (prV 0 0 RX0 TX0 6 rfl rfl (vj_oP (lofW_b (show j < 8 by omega)) hP) (hK.sub [] rfl)) rfl rfl hl.1 rfl (lv_room (Nat.le_of_ble_eq_true rfl)) dX2_tasteOf_5 ⟨Nat.le_of_ble_eq_true rfl, Nat.le_of_ble_eq_true rfl⟩) ?_
  refine vx_ret ?_
  refine W.widen (k := 1) (n := 6) (Nat.le_of_ble_eq_true rfl) (Nat.le_of_ble_eq_true rfl) ?_
  exact W.dret hx hb hr (fun t9 ht9 hW => ⟨⟨_, (), rfl, ⟨hok, rfl⟩, by rw [ht9]; exact hP, va_K.moved hW.alike hK, hD⟩, hS.F ht9⟩) hS.2.2 dX2_tasteOf_8
set_option maxHeartbeats 4000000 in
set_option maxRecDepth 100000 in
/-- pourAway(barrel) -/
theorem metX2_pourAway (l : Launch) (hst : l.stackTraces = false) (D : va_G) (sz : Nat) (x r t d : Nat) (yg : Int32) (la : Nat) (bs : Nat → Nat) (cA cI : ClassId) (n : Nat) (hn : n ≤ 8) (wm df : Int32) (q : UInt64) (wd zs : Nat → Int32) (h : Nat → UInt64) (w3 : va_W) (x9 : Int32)  : vx_Met l yX2_pourAway wsX2_pourAway { frames := 7, cells := 1, slots := 6, locals := 103 } (Pt D [(cA, .object "VinegarLoft$Barrel"), (cI, .int)] [.ref x, .int x9] ([(x, EX r t d yg)] ++ (rowW r la bs cA (nI n) wm df q wd zs h ++ w3)) sz) (va_Qd (fun (r9 : UInt64) (_ : Unit) => (¬ badI n x9) ∧ r9 = h x9.toNatClampNeg) (Bm D [(cA, .object "VinegarLoft$Barrel"), (cI, .int)] (va_A ([(x, EX r t d yg)] ++ (rowW r la bs cA (nI n) wm df q wd zs h ++ w3)) sz) ([(x, EX r t d yg)] ++ (rowW r la bs cA (nI n) wm df q wd zs (hset h x9.toNatClampNeg 0 0 0 0) ++ w3))) (va_A ([(x, EX r t d yg)] ++ (rowW r la bs cA (nI n) wm df q wd zs h ++ w3)) sz)) (XE (fun E => E = xIOB ∧ badI n x9) D [(cA, .object "VinegarLoft$Barrel"), (cI, .int)] (va_A ([(x, EX r t d yg)] ++ (rowW r la bs cA (nI n) wm df q wd zs h ++ w3)) sz) ([(x, EX r t d yg)] ++ (rowW r la bs cA (nI n) wm df q wd zs h ++ w3))) 1 6 (va_A ([(x, EX r t d yg)] ++ (rowW r la bs cA (nI n) wm df q wd zs h ++ w3)) sz) := by
  refine vx_ofW (cc := cX2_pourAway) (maxL := 5) (ret := (some .double)) (by decide) rfl ?_
  intro p e s m args below meth c s₁ B hml ht hv
  obtain ⟨rfl, hsz, hP, hK, hD0, hX⟩ := hv
  have hx := B.exec
  have hb := B.bytes
  have hr := B.returns
  have hts := atoms_spec (ws := wsX2_pourAway) B.pre
  have hown : s.vm.findClass RX2 = some m.cls := findClass_of_methodNamed B.named
  have hlocks := B.notSynchronized
  subst hsz
  have hD := hD0.self (sz := s.heap.size)
  generalize hAe : va_A ([(x, EX r t d yg)] ++ (rowW r la bs cA (nI n) wm df q wd zs h ++ w3)) s.heap.size = A at hD hX ⊢
  have hA : ∀ q : Nat, s.heap.size ≤ q → A q := fun q h => by rw [← hAe]; exact Or.inr h
  refine kW_H (fun H hH => ?_)
  have hP : va_P D vwCl ([(x, EX r t d yg)] ++ (rowW r la bs cA (nI n) wm df q wd zs h ++ w3)) H := by rw [hH]; exact hP
  have hS : va_S A s.heap H [] := by rw [hH]; exact va_S.rf
  have hl := lv_entry ([.ref x, .int x9]) (n := 5) (Nat.le_of_ble_eq_true rfl)
  rw [lg_entry_eq]
  generalize (lg_sl ([.ref x, .int x9]) ++ List.replicate (5 - (lg_sl ([.ref x, .int x9])).length) Slot.unset).toArray = ls at hl ⊢
  have hl : lv_has ls 5 [(0, .ref x), (1, .int x9)] := hl
  refine lv_aload_n hx hb dX2_pourAway_0 rfl (lv_at hl 0 rfl) ?_
  refine lv_iload_n hx hb dX2_pourAway_1 rfl (lv_at hl 1 rfl) ?_
  have hPm : va_P D vwCl ([(x, EX r t d yg)] ++ (rowW r la bs cA (nI n) wm df q wd zs h ++ w3)) H := hP
  have hDm : va_D A ([(x, EX r t d yg)] ++ (rowW r la bs cA (nI n) wm df q wd zs h ++ w3)) := hD
  have hX9 : XP A s H := hX.kept hS.2.1
  have hA9 : ∀ q : Nat, H.size ≤ q → A q := fun q h9 => hA q (Nat.le_trans hS.1 h9)
  refine kq_r (w1 := []) (w2 := [(x, EX r t d yg)] ++ (rowW r la bs cA (nI n) wm df q wd zs h ++ w3)) (w3 := []) (vx_runV (As := [.int x9]) (rest := []) ⟨hx, hb, hml, hown, hts⟩ (metX2_barrelNumbered l hst D H.size x r t d yg la bs cA cI n hn wm df q wd zs h w3 x9) (cwV 1 hts gX2_pourAway_X2_barrelNumbered rfl rfl rfl (by decide +kernel) ⟨Nat.le_of_ble_eq_true rfl, Nat.le_of_ble_eq_true rfl⟩) (ptV 2 0 RX2 TX2 4 rfl rfl hPm (hK.sub [0, 1] rfl) hDm hX9 hA9) rfl rfl hl.1 rfl (lv_room (Nat.le_of_ble_eq_true rfl)) dX2_pourAway_2 ⟨Nat.le_of_ble_eq_true rfl, Nat.le_of_ble_eq_true rfl⟩) (by rw [List.nil_append, List.append_nil]; exact hP) (by rw [List.nil_append, List.append_nil]; exact hD) hS hA (fun E ce q9 H locs hB hP hD hS hce hcv hcl => ?_) (fun H locs hok hP hD hS => ?_)
  · rw [List.nil_append, List.append_nil] at hP hD
    exact kx_out ht hlocks hce hcv hcl hB hP hK hD hS (fun q h => h) (Nat.le_of_ble_eq_true rfl) (Nat.le_of_ble_eq_true rfl)
  rw [List.nil_append, List.append_nil] at hP hD
  obtain ⟨j, hj, hx9⟩ := badI_not (n := n) (by omega) (fun h9 => hok (Or.inl h9)) (Classical.byContradiction fun h9 => hok (Or.inr (fa_nlt h9)))
  rw [show x9.toNatClampNeg = j by rw [hx9]; exact nI_clamp (by omega)]
  refine lv_astore_n (lv' := [(2, .ref (bs j)), (0, .ref x), (1, .int x9)]) hx hb dX2_pourAway_5 rfl hl (by decide) rfl (fun ls hl => ?_)
  refine lv_aload_n hx hb dX2_pourAway_6 rfl (lv_at hl 0 rfl) ?_
  refine va_get (D := D) (ci := 0) (v := .double (h j)) (C := RX0) (T := TX0) (N := 6) hx hb hts (by decide +kernel) hown hK hP (1 + (2 + j)) (lofW_b (show j < 8 by omega)) rfl 2 (by decide) (hts (.fieldLink RX2 86 "VinegarLoft$Barrel" "litres" "D") (by decide +kernel)) (fun _ h9 => h9) rfl dX2_pourAway_7 ?_
  refine lv_dstore_n (lv' := [(3, .double (h j)), (2, .ref (bs j)), (0, .ref x), (1, .int x9)]) hx hb dX2_pourAway_10 rfl hl (by decide) rfl (fun ls hl => ?_)
  refine lv_aload_n hx hb dX2_pourAway_11 rfl (lv_at hl 1 rfl) ?_
  refine ko_v (va_runV (As := []) (rest := []) ⟨hx, hb, hml, hown, hts⟩ (metX0_clear l D H.size (bs j) (wd j) (zs j) (h j) (h (8 + j)) (h (16 + j)) (h (24 + j))) (cwV 0 hts gX2_pourAway_X0_clear rfl rfl rfl (by decide +kernel) ⟨Nat.le_of_ble_eq_true rfl, Nat.le_of_ble_eq_true rfl⟩) (pmV 0 0 RX0 TX0 6 rfl rfl (vj_oP (lofW_b (show j < 8 by omega)) hP) (hK.sub [] rfl) (vj_oD (lofW_b (show j < 8 by omega)) hD)) rfl rfl hl.1 rfl (lv_room (Nat.le_of_ble_eq_true rfl)) dX2_pourAway_12 ⟨Nat.le_of_ble_eq_true rfl, Nat.le_of_ble_eq_true rfl⟩) (lofW_b (show j < 8 by omega)) hP hD hS hA (fun H locs hP hD hS => ?_)
  have hP : va_P D vwCl ([(x, EX r t d yg)] ++ (rowW r la bs cA (nI n) wm df q wd zs (hset h j 0 0 0 0) ++ w3)) H := by rw [← lofW_sh (show j < 8 by omega)]; exact hP
  have hD : va_D A ([(x, EX r t d yg)] ++ (rowW r la bs cA (nI n) wm df q wd zs (hset h j 0 0 0 0) ++ w3)) := by rw [← lofW_sh (show j < 8 by omega)]; exact hD
  refine lv_dload_n hx hb dX2_pourAway_15 rfl (lv_at hl 0 rfl) ?_
  refine vx_ret ?_
  refine W.widen (k := 1) (n := 6) (Nat.le_of_ble_eq_true rfl) (Nat.le_of_ble_eq_true rfl) ?_
  exact W.dret hx hb hr (fun t9 ht9 hW => ⟨⟨_, (), rfl, ⟨hok, rfl⟩, by rw [ht9]; exact hP, va_K.moved hW.alike hK, hD⟩, hS.F ht9⟩) hS.2.2 dX2_pourAway_16
set_option maxHeartbeats 4000000 in
set_option maxRecDepth 100000 in
/-- draw(bottles) -/
theorem metX2_draw (l : Launch) (hst : l.stackTraces = false) (D : va_G) (sz : Nat) (x r t d : Nat) (yg : Int32) (la : Nat) (bs : Nat → Nat) (cA cI : ClassId) (n : Nat) (hn : n ≤ 8) (wm df : Int32) (q : UInt64) (wd zs : Nat → Int32) (h : Nat → UInt64) (w4 : va_W) (dk : Nat → Int32) (x9 : Int32) (hN : NNr n h) (hr9 : rdok h n q) (hdk : ¬ badR 1 1000 x9 → dwok h n df q x9) : vx_Met l yX2_draw wsX2_draw { frames := 6, cells := 1, slots := 6, locals := 82 } (Pt D [(cA, .object "VinegarLoft$Barrel"), (cI, .int)] [.ref x, .int x9] ([(x, EX r t d yg)] ++ (rowW r la bs cA (nI n) wm df q wd zs h ++ (w4 ++ [(d, ED cI dk)]))) sz) (va_Qi (fun (r9 : Int32) (_ : Unit) => (¬ badR 1 1000 x9) ∧ r9 = takv h n df q x9) (Bm D [(cA, .object "VinegarLoft$Barrel"), (cI, .int)] (va_A ([(x, EX r t d yg)] ++ (rowW r la bs cA (nI n) wm df q wd zs h ++ (w4 ++ [(d, ED cI dk)]))) sz) ([(x, EX r t d yg)] ++ (rowW r la bs cA (nI n) wm df (drQ h n df q x9) wd zs (drH h n df q x9) ++ (w4 ++ [(d, ED cI (drK dk h n df q x9))])))) (va_A ([(x, EX r t d yg)] ++ (rowW r la bs cA (nI n) wm df q wd zs h ++ (w4 ++ [(d, ED cI dk)]))) sz)) (XE (fun E => E = xIAE ∧ badR 1 1000 x9) D [(cA, .object "VinegarLoft$Barrel"), (cI, .int)] (va_A ([(x, EX r t d yg)] ++ (rowW r la bs cA (nI n) wm df q wd zs h ++ (w4 ++ [(d, ED cI dk)]))) sz) ([(x, EX r t d yg)] ++ (rowW r la bs cA (nI n) wm df q wd zs h ++ (w4 ++ [(d, ED cI dk)])))) 1 6 (va_A ([(x, EX r t d yg)] ++ (rowW r la bs cA (nI n) wm df q wd zs h ++ (w4 ++ [(d, ED cI dk)]))) sz) := by
  refine vx_ofW (cc := cX2_draw) (maxL := 4) (ret := (some .int)) (by decide) rfl ?_
  intro p e s m args below meth c s₁ B hml ht hv
  obtain ⟨rfl, hsz, hP, hK, hD0, hX⟩ := hv
  have hx := B.exec
  have hb := B.bytes
  have hr := B.returns
  have hts := atoms_spec (ws := wsX2_draw) B.pre
  have hown : s.vm.findClass RX2 = some m.cls := findClass_of_methodNamed B.named
  have hlocks := B.notSynchronized
  subst hsz
  have hD := hD0.self (sz := s.heap.size)
  generalize hAe : va_A ([(x, EX r t d yg)] ++ (rowW r la bs cA (nI n) wm df q wd zs h ++ (w4 ++ [(d, ED cI dk)]))) s.heap.size = A at hD hX ⊢
  have hA : ∀ q : Nat, s.heap.size ≤ q → A q := fun q h => by rw [← hAe]; exact Or.inr h
  refine kW_H (fun H hH => ?_)
  have hP : va_P D vwCl ([(x, EX r t d yg)] ++ (rowW r la bs cA (nI n) wm df q wd zs h ++ (w4 ++ [(d, ED cI dk)]))) H := by rw [hH]; exact hP
  have hS : va_S A s.heap H [] := by rw [hH]; exact va_S.rf
  have hl := lv_entry ([.ref x, .int x9]) (n := 4) (Nat.le_of_ble_eq_true rfl)
  rw [lg_entry_eq]
  generalize (lg_sl ([.ref x, .int x9]) ++ List.replicate (4 - (lg_sl ([.ref x, .int x9])).length) Slot.unset).toArray = ls at hl ⊢
  have hl : lv_has ls 4 [(0, .ref x), (1, .int x9)] := hl
  refine lv_iload_n hx hb dX2_draw_0 rfl (lv_at hl 1 rfl) ?_
  refine lv_iconst (v := 1) hx hb dX2_draw_1 (by decide) ?_
  refine lv_icmp_lt (tgt := 12) hx hb dX2_draw_2 (by decide) (fun c2 => ?_) (fun c2 => ?_)
  · exact kx_throw (ik := 27) (is := 66) (ic := 31) (cls := xIAE) (text := "bottles out of range") hx hb hst hown hlocks (by decide) (hts (.classLink RX2 27 xIAE) (by decide +kernel)) (hts (.initialized xIAE) (by decide +kernel)) (by decide) (fun w h9 => hts w (List.mem_cons_of_mem _ (List.mem_append_right _ h9))) (by decide +kernel) (by decide +kernel) hX hS (hl.1.trans hml.symm) ht dX2_draw_12 dX2_draw_15 dX2_draw_16 dX2_draw_18 dX2_draw_21 ⟨Nat.le_of_ble_eq_true rfl, Nat.le_of_ble_eq_true rfl, Nat.le_of_ble_eq_true rfl, Nat.le_of_ble_eq_true rfl⟩ (⟨rfl, Or.inl c2⟩) hP hK hD (fun q h => h) (Nat.le_of_ble_eq_true rfl) (Nat.le_of_ble_eq_true rfl)
  · refine lv_iload_n hx hb dX2_draw_5 rfl (lv_at hl 1 rfl) ?_
    refine lv_sipush (v := 1000) hx hb dX2_draw_6 (by decide) ?_
    refine lv_icmp_le (tgt := 22) hx hb dX2_draw_9 (by decide) (fun c9 => ?_) (fun c9 => ?_)
    · refine lv_aload_n hx hb dX2_draw_22 rfl (lv_at hl 0 rfl) ?_
      refine va_get (D := D) (ci := 2) (v := .ref r) (C := RX2) (T := TX2) (N := 4) hx hb hts (by decide +kernel) hown hK hP (0) rfl rfl 0 (by decide) (hts (.fieldLink RX2 10 "VinegarLoft" "row" "LVinegarLoft$Row;") (by decide +kernel)) (fun _ h9 => h9) rfl dX2_draw_23 ?_
      refine kr_i (W.runV (As := []) (rest := []) ⟨hx, hb, hml, hown, hts⟩ (metX1_bottlesReady l D r la bs cA n hn wm df q wd zs h hN hr9) (cwV 0 hts gX2_draw_X1_bottlesReady rfl rfl rfl (by decide +kernel) ⟨Nat.le_of_ble_eq_true rfl, Nat.le_of_ble_eq_true rfl⟩) (prV 1 0 RX1 TX1 5 rfl rfl (vj_mP hP) (hK.sub [0] rfl)) rfl rfl hl.1 rfl (lv_room (Nat.le_of_ble_eq_true rfl)) dX2_draw_26 ⟨Nat.le_of_ble_eq_true rfl, Nat.le_of_ble_eq_true rfl⟩) ?_
      refine lv_istore_n (lv' := [(2, .int (rdv h n df q)), (0, .ref x), (1, .int x9)]) hx hb dX2_draw_29 rfl hl (by decide) rfl (fun ls hl => ?_)
      refine lv_iload_n hx hb dX2_draw_30 rfl (lv_at hl 2 rfl) ?_
      refine lv_iload_n hx hb dX2_draw_31 rfl (lv_at hl 0 rfl) ?_
      refine lv_icmp_ge (tgt := 39) hx hb dX2_draw_32 (by decide) (fun c32 => ?_) (fun c32 => ?_)
      · refine lv_iload_n hx hb dX2_draw_39 rfl (lv_at hl 0 rfl) ?_
        refine ki_eq (show (rdv h n df q) = takv h n df q x9 from by unfold takv; rw [if_neg (fun h9 => by rw [Int32.lt_iff_toInt_lt] at h9; rw [Int32.le_iff_toInt_le] at c32; omega)]) ?_
        refine lv_istore_n (lv' := [(3, .int (takv h n df q x9)), (2, .int (rdv h n df q)), (0, .ref x), (1, .int x9)]) hx hb dX2_draw_40 rfl hl (by decide) rfl (fun ls hl => ?_)
        refine lv_iload_n hx hb dX2_draw_41 rfl (lv_at hl 0 rfl) ?_
        refine lv_if_le (tgt := 72) hx hb dX2_draw_42 (by decide) (fun c42 => ?_) (fun c42 => ?_)
        · refine lv_iload_n hx hb dX2_draw_72 rfl (lv_at hl 0 rfl) ?_
          have hP : va_P D vwCl ([(x, EX r t d yg)] ++ (rowW r la bs cA (nI n) wm df (drQ h n df q x9) wd zs (drH h n df q x9) ++ (w4 ++ [(d, ED cI (drK dk h n df q x9))]))) H := by rw [(dr_no (dk := dk) c42).1, (dr_no (dk := dk) c42).2.1, (dr_no (dk := dk) c42).2.2]; exact hP
          have hD : va_D A ([(x, EX r t d yg)] ++ (rowW r la bs cA (nI n) wm df (drQ h n df q x9) wd zs (drH h n df q x9) ++ (w4 ++ [(d, ED cI (drK dk h n df q x9))]))) := by rw [(dr_no (dk := dk) c42).1, (dr_no (dk := dk) c42).2.1, (dr_no (dk := dk) c42).2.2]; exact hD
          refine vx_ret ?_
          refine W.widen (k := 1) (n := 6) (Nat.le_of_ble_eq_true rfl) (Nat.le_of_ble_eq_true rfl) ?_
          exact W.iret hx hb hr (fun t9 ht9 hW => ⟨⟨_, (), rfl, ⟨(nbadR c2 c9), rfl⟩, by rw [ht9]; exact hP, va_K.moved hW.alike hK, hD⟩, hS.F ht9⟩) hS.2.2 dX2_draw_73
        · have c42p := i32_pos c42
          obtain ⟨b, ho, hdf⟩ := rdv_pos (tak_pos c42p)
          have hbn : b < n := elO_lt h n b ho
          subst hdf
          obtain ⟨k1, k2, k3, k4⟩ := hdk (nbadR c2 c9) b ho c42p
          obtain ⟨e1, e2, e3⟩ := dr_yes (dk := dk) ho c42p
          refine lv_aload_n hx hb dX2_draw_45 rfl (lv_at hl 2 rfl) ?_
          refine va_get (D := D) (ci := 2) (v := .ref d) (C := RX2) (T := TX2) (N := 4) hx hb hts (by decide +kernel) hown hK hP (0) rfl rfl 2 (by decide) (hts (.fieldLink RX2 19 "VinegarLoft" "drawnByKind" "[I") (by decide +kernel)) (fun _ h9 => h9) rfl dX2_draw_46 ?_
          refine lv_aload_n hx hb dX2_draw_49 rfl (lv_at hl 2 rfl) ?_
          refine va_get (D := D) (ci := 2) (v := .ref r) (C := RX2) (T := TX2) (N := 4) hx hb hts (by decide +kernel) hown hK hP (0) rfl rfl 0 (by decide) (hts (.fieldLink RX2 10 "VinegarLoft" "row" "LVinegarLoft$Row;") (by decide +kernel)) (fun _ h9 => h9) rfl dX2_draw_50 ?_
          refine kr_d (W.runV (As := []) (rest := [.ref d]) ⟨hx, hb, hml, hown, hts⟩ (metX1_greatestAge l D r la bs cA n hn wm (nI b) q wd zs h hN) (cwV 0 hts gX2_draw_X1_greatestAge rfl rfl rfl (by decide +kernel) ⟨Nat.le_of_ble_eq_true rfl, Nat.le_of_ble_eq_true rfl⟩) (prV 1 0 RX1 TX1 5 rfl rfl (vj_mP hP) (hK.sub [0] rfl)) rfl rfl hl.1 rfl (lv_room (Nat.le_of_ble_eq_true rfl)) dX2_draw_53 ⟨Nat.le_of_ble_eq_true rfl, Nat.le_of_ble_eq_true rfl⟩) ?_
          refine kd_eq (show elG h (elO h n) = h (8 + b) from by rw [ho]; rfl) ?_
          refine kr_i (W.runS (As := [.double (h (8 + b))]) (rest := [.ref d]) ⟨hx, hb, hml, hown, hts⟩ (metX2_kindAt l D (h (8 + b)) (cmp_ne (hN b hbn).2.ne (NN.ne (by unfold NN; decide +kernel))) (cmp_ne (hN b hbn).2.ne (NN.ne (by unfold NN; decide +kernel)))) (va_cwS 1 hts gX2_draw_X2_kindAt rfl rfl rfl (by decide +kernel) ⟨Nat.le_of_ble_eq_true rfl, Nat.le_of_ble_eq_true rfl⟩) (prS (ws := []) (tys := []) (fun k q h => by simp at h) (hK.sub [] rfl)) rfl rfl hl.1 rfl (lv_room (Nat.le_of_ble_eq_true rfl)) dX2_draw_56 ⟨Nat.le_of_ble_eq_true rfl, Nat.le_of_ble_eq_true rfl⟩) ?_
          refine lv_dup2_11 hx hb dX2_draw_59 rfl rfl ?_
          refine va_iald hx hb hK hP (1 + (10 + w4.length)) 1 lofW_d rfl (vp_in_nI (kndN_lt _) (by decide)) dX2_draw_60 ?_
          refine ki_eq (show dk (nI (kndN (h (8 + b)))).toNatClampNeg = dk (kndN (h (8 + b))) from by rw [nI_clamp (by have := kndN_lt (h (8 + b)); omega)]) ?_
          refine lv_iload_n hx hb dX2_draw_61 rfl (lv_at hl 0 rfl) ?_
          refine lv_iadd hx hb dX2_draw_62 ?_
          refine va_iast hx hb hK hP hD hS (1 + (10 + w4.length)) 1 lofW_d rfl (vp_in_nI (kndN_lt _) (by decide)) dX2_draw_63 (fun H locs hP hD hS => ?_)
          rw [lofW_sd, nI_clamp (show kndN (h (8 + b)) < 2 ^ 31 by have := kndN_lt (h (8 + b)); omega)] at hP hD
          have hP : va_P D vwCl ([(x, EX r t d yg)] ++ (rowW r la bs cA (nI n) wm (nI b) q wd zs h ++ (w4 ++ [(d, ED cI (upd dk (kndN (h (8 + b))) ((dk (kndN (h (8 + b)))) + (takv h n (nI b) q x9))))]))) H := hP
          have hD : va_D A ([(x, EX r t d yg)] ++ (rowW r la bs cA (nI n) wm (nI b) q wd zs h ++ (w4 ++ [(d, ED cI (upd dk (kndN (h (8 + b))) ((dk (kndN (h (8 + b)))) + (takv h n (nI b) q x9))))]))) := hD
          refine lv_aload_n hx hb dX2_draw_64 rfl (lv_at hl 2 rfl) ?_
          refine va_get (D := D) (ci := 2) (v := .ref r) (C := RX2) (T := TX2) (N := 4) hx hb hts (by decide +kernel) hown hK hP (0) rfl rfl 0 (by decide) (hts (.fieldLink RX2 10 "VinegarLoft" "row" "LVinegarLoft$Row;") (by decide +kernel)) (fun _ h9 => h9) rfl dX2_draw_65 ?_
          refine lv_iload_n hx hb dX2_draw_68 rfl (lv_at hl 0 rfl) ?_
          refine kc_v (w1 := [(x, EX r t d yg)]) (w3 := (w4 ++ [(d, ED cI (upd dk (kndN (h (8 + b))) ((dk (kndN (h (8 + b)))) + (takv h n (nI b) q x9))))])) (va_runV (As := [.int (takv h n (nI b) q x9)]) (rest := []) ⟨hx, hb, hml, hown, hts⟩ (metX1_takeBottles l D H.size r la bs cA n hn wm q wd zs h b hbn (takv h n (nI b) q x9) k1 k2 k3 k4) (cwV 1 hts gX2_draw_X1_takeBottles rfl rfl rfl (by decide +kernel) ⟨Nat.le_of_ble_eq_true rfl, Nat.le_of_ble_eq_true rfl⟩) (pmV 1 0 RX1 TX1 5 rfl rfl (vj_mP hP) (hK.sub [0] rfl) (vj_mD hD)) rfl rfl hl.1 rfl (lv_room (Nat.le_of_ble_eq_true rfl)) dX2_draw_69 ⟨Nat.le_of_ble_eq_true rfl, Nat.le_of_ble_eq_true rfl⟩) hP hD hS hA (fun H locs hP hD hS => ?_)
          have hP : va_P D vwCl ([(x, EX r t d yg)] ++ (rowW r la bs cA (nI n) wm (nI b) (FP.dsub q (botv (takv h n (nI b) q x9))) wd zs (tkH h b (botv (takv h n (nI b) q x9))) ++ (w4 ++ [(d, ED cI (upd dk (kndN (h (8 + b))) ((dk (kndN (h (8 + b)))) + (takv h n (nI b) q x9))))]))) H := hP
          have hD : va_D A ([(x, EX r t d yg)] ++ (rowW r la bs cA (nI n) wm (nI b) (FP.dsub q (botv (takv h n (nI b) q x9))) wd zs (tkH h b (botv (takv h n (nI b) q x9))) ++ (w4 ++ [(d, ED cI (upd dk (kndN (h (8 + b))) ((dk (kndN (h (8 + b)))) + (takv h n (nI b) q x9))))]))) := hD
          refine lv_iload_n hx hb dX2_draw_72 rfl (lv_at hl 0 rfl) ?_
          have hP : va_P D vwCl ([(x, EX r t d yg)] ++ (rowW r la bs cA (nI n) wm (nI b) (drQ h n (nI b) q x9) wd zs (drH h n (nI b) q x9) ++ (w4 ++ [(d, ED cI (drK dk h n (nI b) q x9))]))) H := by rw [e1, e2, e3]; exact hP
          have hD : va_D A ([(x, EX r t d yg)] ++ (rowW r la bs cA (nI n) wm (nI b) (drQ h n (nI b) q x9) wd zs (drH h n (nI b) q x9) ++ (w4 ++ [(d, ED cI (drK dk h n (nI b) q x9))]))) := by rw [e1, e2, e3]; exact hD
          refine vx_ret ?_
          refine W.widen (k := 1) (n := 6) (Nat.le_of_ble_eq_true rfl) (Nat.le_of_ble_eq_true rfl) ?_
          exact W.iret hx hb hr (fun t9 ht9 hW => ⟨⟨_, (), rfl, ⟨(nbadR c2 c9), rfl⟩, by rw [ht9]; exact hP, va_K.moved hW.alike hK, hD⟩, hS.F ht9⟩) hS.2.2 dX2_draw_73
      · refine lv_iload_n hx hb dX2_draw_35 rfl (lv_at hl 2 rfl) ?_
        refine lv_goto (tgt := 40) hx hb dX2_draw_36 (by decide) ?_
        refine ki_eq (show x9 = takv h n df q x9 from by unfold takv; rw [if_pos (fa_nle c32)]) ?_
        refine lv_istore_n (lv' := [(3, .int (takv h n df q x9)), (2, .int (rdv h n df q)), (0, .ref x), (1, .int x9)]) hx hb dX2_draw_40 rfl hl (by decide) rfl (fun ls hl => ?_)
        refine lv_iload_n hx hb dX2_draw_41 rfl (lv_at hl 0 rfl) ?_
        refine lv_if_le (tgt := 72) hx hb dX2_draw_42 (by decide) (fun c42 => ?_) (fun c42 => ?_)
        · refine lv_iload_n hx hb dX2_draw_72 rfl (lv_at hl 0 rfl) ?_
          have hP : va_P D vwCl ([(x, EX r t d yg)] ++ (rowW r la bs cA (nI n) wm df (drQ h n df q x9) wd zs (drH h n df q x9) ++ (w4 ++ [(d, ED cI (drK dk h n df q x9))]))) H := by rw [(dr_no (dk := dk) c42).1, (dr_no (dk := dk) c42).2.1, (dr_no (dk := dk) c42).2.2]; exact hP
          have hD : va_D A ([(x, EX r t d yg)] ++ (rowW r la bs cA (nI n) wm df (drQ h n df q x9) wd zs (drH h n df q x9) ++ (w4 ++ [(d, ED cI (drK dk h n df q x9))]))) := by rw [(dr_no (dk := dk) c42).1, (dr_no (dk := dk) c42).2.1, (dr_no (dk := dk) c42).2.2]; exact hD
          refine vx_ret ?_
          refine W.widen (k := 1) (n := 6) (Nat.le_of_ble_eq_true rfl) (Nat.le_of_ble_eq_true rfl) ?_
          exact W.iret hx hb hr (fun t9 ht9 hW => ⟨⟨_, (), rfl, ⟨(nbadR c2 c9), rfl⟩, by rw [ht9]; exact hP, va_K.moved hW.alike hK, hD⟩, hS.F ht9⟩) hS.2.2 dX2_draw_73
        · have c42p := i32_pos c42
          obtain ⟨b, ho, hdf⟩ := rdv_pos (tak_pos c42p)
          have hbn : b < n := elO_lt h n b ho
          subst hdf
          obtain ⟨k1, k2, k3, k4⟩ := hdk (nbadR c2 c9) b ho c42p
          obtain ⟨e1, e2, e3⟩ := dr_yes (dk := dk) ho c42p
          refine lv_aload_n hx hb dX2_draw_45 rfl (lv_at hl 2 rfl) ?_
          refine va_get (D := D) (ci := 2) (v := .ref d) (C := RX2) (T := TX2) (N := 4) hx hb hts (by decide +kernel) hown hK hP (0) rfl rfl 2 (by decide) (hts (.fieldLink RX2 19 "VinegarLoft" "drawnByKind" "[I") (by decide +kernel)) (fun _ h9 => h9) rfl dX2_draw_46 ?_
          refine lv_aload_n hx hb dX2_draw_49 rfl (lv_at hl 2 rfl) ?_
          refine va_get (D := D) (ci := 2) (v := .ref r) (C := RX2) (T := TX2) (N := 4) hx hb hts (by decide +kernel) hown hK hP (0) rfl rfl 0 (by decide) (hts (.fieldLink RX2 10 "VinegarLoft" "row" "LVinegarLoft$Row;") (by decide +kernel)) (fun _ h9 => h9) rfl dX2_draw_50 ?_
          refine kr_d (W.runV (As := []) (rest := [.ref d]) ⟨hx, hb, hml, hown, hts⟩ (metX1_greatestAge l D r la bs cA n hn wm (nI b) q wd zs h hN) (cwV 0 hts gX2_draw_X1_greatestAge rfl rfl rfl (by decide +kernel) ⟨Nat.le_of_ble_eq_true rfl, Nat.le_of_ble_eq_true rfl⟩) (prV 1 0 RX1 TX1 5 rfl rfl (vj_mP hP) (hK.sub [0] rfl)) rfl rfl hl.1 rfl (lv_room (Nat.le_of_ble_eq_true rfl)) dX2_draw_53 ⟨Nat.le_of_ble_eq_true rfl, Nat.le_of_ble_eq_true rfl⟩) ?_
          refine kd_eq (show elG h (elO h n) = h (8 + b) from by rw [ho]; rfl) ?_
          refine kr_i (W.runS (As := [.double (h (8 + b))]) (rest := [.ref d]) ⟨hx, hb, hml, hown, hts⟩ (metX2_kindAt l D (h (8 + b)) (cmp_ne (hN b hbn).2.ne (NN.ne (by unfold NN; decide +kernel))) (cmp_ne (hN b hbn).2.ne (NN.ne (by unfold NN; decide +kernel)))) (va_cwS 1 hts gX2_draw_X2_kindAt rfl rfl rfl (by decide +kernel) ⟨Nat.le_of_ble_eq_true rfl, Nat.le_of_ble_eq_true rfl⟩) (prS (ws := []) (tys := []) (fun k q h => by simp at h) (hK.sub [] rfl)) rfl rfl hl.1 rfl (lv_room (Nat.le_of_ble_eq_true rfl)) dX2_draw_56 ⟨Nat.le_of_ble_eq_true rfl, Nat.le_of_ble_eq_true rfl⟩) ?_
          refine lv_dup2_11 hx hb dX2_draw_59 rfl rfl ?_
          refine va_iald hx hb hK hP (1 + (10 + w4.length)) 1 lofW_d rfl (vp_in_nI (kndN_lt _) (by decide)) dX2_draw_60 ?_
          refine ki_eq (show dk (nI (kndN (h (8 + b)))).toNatClampNeg = dk (kndN (h (8 + b))) from by rw [nI_clamp (by have := kndN_lt (h (8 + b)); omega)]) ?_
          refine lv_iload_n hx hb dX2_draw_61 rfl (lv_at hl 0 rfl) ?_
          refine lv_iadd hx hb dX2_draw_62 ?_
          refine va_iast hx hb hK hP hD hS (1 + (10 + w4.length)) 1 lofW_d rfl (vp_in_nI (kndN_lt _) (by decide)) dX2_draw_63 (fun H locs hP hD hS => ?_)
          rw [lofW_sd, nI_clamp (show kndN (h (8 + b)) < 2 ^ 31 by have := kndN_lt (h (8 + b)); omega)] at hP hD
          have hP : va_P D vwCl ([(x, EX r t d yg)] ++ (rowW r la bs cA (nI n) wm (nI b) q wd zs h ++ (w4 ++ [(d, ED cI (upd dk (kndN (h (8 + b))) ((dk (kndN (h (8 + b)))) + (takv h n (nI b) q x9))))]))) H := hP
          have hD : va_D A ([(x, EX r t d yg)] ++ (rowW r la bs cA (nI n) wm (nI b) q wd zs h ++ (w4 ++ [(d, ED cI (upd dk (kndN (h (8 + b))) ((dk (kndN (h (8 + b)))) + (takv h n (nI b) q x9))))]))) := hD
          refine lv_aload_n hx hb dX2_draw_64 rfl (lv_at hl 2 rfl) ?_
          refine va_get (D := D) (ci := 2) (v := .ref r) (C := RX2) (T := TX2) (N := 4) hx hb hts (by decide +kernel) hown hK hP (0) rfl rfl 0 (by decide) (hts (.fieldLink RX2 10 "VinegarLoft" "row" "LVinegarLoft$Row;") (by decide +kernel)) (fun _ h9 => h9) rfl dX2_draw_65 ?_
          refine lv_iload_n hx hb dX2_draw_68 rfl (lv_at hl 0 rfl) ?_
          refine kc_v (w1 := [(x, EX r t d yg)]) (w3 := (w4 ++ [(d, ED cI (upd dk (kndN (h (8 + b))) ((dk (kndN (h (8 + b)))) + (takv h n (nI b) q x9))))])) (va_runV (As := [.int (takv h n (nI b) q x9)]) (rest := []) ⟨hx, hb, hml, hown, hts⟩ (metX1_takeBottles l D H.size r la bs cA n hn wm q wd zs h b hbn (takv h n (nI b) q x9) k1 k2 k3 k4) (cwV 1 hts gX2_draw_X1_takeBottles rfl rfl rfl (by decide +kernel) ⟨Nat.le_of_ble_eq_true rfl, Nat.le_of_ble_eq_true rfl⟩) (pmV 1 0 RX1 TX1 5 rfl rfl (vj_mP hP) (hK.sub [0] rfl) (vj_mD hD)) rfl rfl hl.1 rfl (lv_room (Nat.le_of_ble_eq_true rfl)) dX2_draw_69 ⟨Nat.le_of_ble_eq_true rfl, Nat.le_of_ble_eq_true rfl⟩) hP hD hS hA (fun H locs hP hD hS => ?_)
          have hP : va_P D vwCl ([(x, EX r t d yg)] ++ (rowW r la bs cA (nI n) wm (nI b) (FP.dsub q (botv (takv h n (nI b) q x9))) wd zs (tkH h b (botv (takv h n (nI b) q x9))) ++ (w4 ++ [(d, ED cI (upd dk (kndN (h (8 + b))) ((dk (kndN (h (8 + b)))) + (takv h n (nI b) q x9))))]))) H := hP
          have hD : va_D A ([(x, EX r t d yg)] ++ (rowW r la bs cA (nI n) wm (nI b) (FP.dsub q (botv (takv h n (nI b) q x9))) wd zs (tkH h b (botv (takv h n (nI b) q x9))) ++ (w4 ++ [(d, ED cI (upd dk (kndN (h (8 + b))) ((dk (kndN (h (8 + b)))) + (takv h n (nI b) q x9))))]))) := hD
          refine lv_iload_n hx hb dX2_draw_72 rfl (lv_at hl 0 rfl) ?_
          have hP : va_P D vwCl ([(x, EX r t d yg)] ++ (rowW r la bs cA (nI n) wm (nI b) (drQ h n (nI b) q x9) wd zs (drH h n (nI b) q x9) ++ (w4 ++ [(d, ED cI (drK dk h n (nI b) q x9))]))) H := by rw [e1, e2, e3]; exact hP
          have hD : va_D A ([(x, EX r t d yg)] ++ (rowW r la bs cA (nI n) wm (nI b) (drQ h n (nI b) q x9) wd zs (drH h n (nI b) q x9) ++ (w4 ++ [(d, ED cI (drK dk h n (nI b) q x9))]))) := by rw [e1, e2, e3]; exact hD
          refine vx_ret ?_
          refine W.widen (k := 1) (n := 6) (Nat.le_of_ble_eq_true rfl) (Nat.le_of_ble_eq_true rfl) ?_
          exact W.iret hx hb hr (fun t9 ht9 hW => ⟨⟨_, (), rfl, ⟨(nbadR c2 c9), rfl⟩, by rw [ht9]; exact hP, va_K.moved hW.alike hK, hD⟩, hS.F ht9⟩) hS.2.2 dX2_draw_73
    · exact kx_throw (ik := 27) (is := 66) (ic := 31) (cls := xIAE) (text := "bottles out of range") hx hb hst hown hlocks (by decide) (hts (.classLink RX2 27 xIAE) (by decide +kernel)) (hts (.initialized xIAE) (by decide +kernel)) (by decide) (fun w h9 => hts w (List.mem_cons_of_mem _ (List.mem_append_right _ h9))) (by decide +kernel) (by decide +kernel) hX hS (hl.1.trans hml.symm) ht dX2_draw_12 dX2_draw_15 dX2_draw_16 dX2_draw_18 dX2_draw_21 ⟨Nat.le_of_ble_eq_true rfl, Nat.le_of_ble_eq_true rfl, Nat.le_of_ble_eq_true rfl, Nat.le_of_ble_eq_true rfl⟩ (⟨rfl, Or.inr (fa_nle c9)⟩) hP hK hD (fun q h => h) (Nat.le_of_ble_eq_true rfl) (Nat.le_of_ble_eq_true rfl)
