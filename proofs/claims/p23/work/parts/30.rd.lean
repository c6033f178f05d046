/-! reading a barrel that is there (laid by wip/p23/prog/y0.py) -/
def kSa (post : Nat → Prop) : Array Value → State → Outcome → State → Prop := fun _ st o t => ∃ r : Nat, o = .returned (some (.ref r)) ∧ post r ∧ t.heap = st.heap
section ROWA
variable {p : Program} {l : Launch} {e : Env} {R : Room} {s : State} {m : MethodId} {args : Array Value} {below : List Frame} {meth : Method} {c : Code} {H : Heap} {locs : List Loc} {cells slots : Nat} {Q : State → Prop} {pc : Nat} {ls : Array Slot} {rest st0 : List Value} {cc : ByteArray}
theorem kr_a {RES : Nat} {a : Array Value} (hr : CallRun p l e R s m args below meth c H locs cells slots 0 0 (F0 m pc ls st0) rest (kSa (fun r => r = RES) a) (fun _ => False)) (kk : W p l e R s m args below meth c H locs cells slots Q (F0 m (pc + 3) ls (.ref RES :: rest))) : W p l e R s m args below meth c H locs cells slots Q (F0 m pc ls st0) := by
  intro T hT X
  obtain ⟨v, st₀, t, T', L, h0, X', hL, e1, ⟨r, hv, hp, hh⟩, st⟩ := hr T hT X
  cases hv
  subst hp
  obtain ⟨t2, a1, b1⟩ := kk T' (by rw [e1, hh, h0]) (Stand.forget X' (fun q h => (hL q h).elim))
  exact ⟨t2, st t2 a1, b1⟩
theorem cv_zeq (o : Option Ordering) (op : CmpOp) (h : o ≠ none) : Op.cmpValue o op = 0 ↔ o = some .eq := by
  rcases o with _ | (_ | _ | _)
  · exact absurd rfl h
  all_goals simp [Op.cmpValue]
  all_goals decide
theorem kd_zne {x y : UInt64} {op : CmpOp} {off : Int} {tgt : Nat} (hexec : p.tables.exec = Jvm.exec) (hb : c.code = cc) (hd1 : decode cc pc = .ok (.dcmp op, 1)) (hd2 : decode cc (pc + 1) = .ok (.ifCond .ne off, 3)) (ht : ((pc + 1 : Nat) : Int) + off = (tgt : Int)) (hne : FP.dcmp x y ≠ none)
    (kt : FP.dcmp x y ≠ some .eq → W p l e R s m args below meth c H locs cells slots Q (F0 m tgt ls rest)) (kf : FP.dcmp x y = some .eq → W p l e R s m args below meth c H locs cells slots Q (F0 m (pc + 4) ls rest)) : W p l e R s m args below meth c H locs cells slots Q (F0 m pc ls (.double y :: .double x :: rest)) := by
  refine lv_dcmp hexec hb hd1 ?_
  exact lv_if_ne hexec hb hd2 ht (fun h => kt (fun h2 => h ((cv_zeq _ _ hne).mpr h2))) (fun h => kf ((cv_zeq _ _ hne).mp h))
theorem kd_zeq {x y : UInt64} {op : CmpOp} {off : Int} {tgt : Nat} (hexec : p.tables.exec = Jvm.exec) (hb : c.code = cc) (hd1 : decode cc pc = .ok (.dcmp op, 1)) (hd2 : decode cc (pc + 1) = .ok (.ifCond .eq off, 3)) (ht : ((pc + 1 : Nat) : Int) + off = (tgt : Int)) (hne : FP.dcmp x y ≠ none)
    (kt : FP.dcmp x y = some .eq → W p l e R s m args below meth c H locs cells slots Q (F0 m tgt ls rest)) (kf : FP.dcmp x y ≠ some .eq → W p l e R s m args below meth c H locs cells slots Q (F0 m (pc + 4) ls rest)) : W p l e R s m args below meth c H locs cells slots Q (F0 m pc ls (.double y :: .double x :: rest)) := by
  refine lv_dcmp hexec hb hd1 ?_
  exact lv_if_eq hexec hb hd2 ht (fun h => kt ((cv_zeq _ _ hne).mp h)) (fun h => kf (fun h2 => h ((cv_zeq _ _ hne).mpr h2)))
end ROWA
theorem nj_lt {j n : Nat} (hj : j < n) (hn : n ≤ 8) : nI j < nI n := nI_lt hj (by omega)
theorem nj_nn {j : Nat} (hj : j < 2 ^ 31) : ¬ nI j < 0 := nI_pos hj
theorem i32_le_nlt {a b : Int32} (h : a ≤ b) : ¬ b < a := fun h2 => by
  rw [Int32.lt_iff_toInt_lt] at h2
  rw [Int32.le_iff_toInt_le] at h
  omega
set_option maxHeartbeats 4000000 in
set_option maxRecDepth 100000 in
theorem metR_barrelNumbered (l : Launch) (D : va_G) (x r t d : Nat) (yg : Int32) (la : Nat) (bs : Nat → Nat) (cA cI : ClassId) (n : Nat) (hn : n ≤ 8) (wm df : Int32) (q : UInt64) (wd zs : Nat → Int32) (h : Nat → UInt64) (w3 : va_W) (j : Nat) (hj : j < n)  : Met l yX2_barrelNumbered wsX2_barrelNumbered { frames := 0, cells := 0, slots := 0, locals := 0 } (Pr D [(cA, .object "VinegarLoft$Barrel"), (cI, .int)] [.ref x, .int (nI j)] ([(x, EX r t d yg)] ++ (rowW r la bs cA (nI n) wm df q wd zs h ++ w3))) (kSa (fun r : Nat => r = bs j)) 0 0 (fun _ => False) := by
  refine Met.ofW (cc := cX2_barrelNumbered) (maxL := 2) (ret := (some (.object "VinegarLoft$Barrel"))) (by decide) rfl ?_
  intro p e s m args below meth c s₁ B hml hv
  obtain ⟨rfl, hP, hK⟩ := hv
  have hx := B.exec
  have hb := B.bytes
  have hr := B.returns
  have hts := atoms_spec (ws := wsX2_barrelNumbered) B.pre
  have hown : s.vm.findClass RX2 = some m.cls := findClass_of_methodNamed B.named
  have hlocks := B.notSynchronized
  have hl := lv_entry ([.ref x, .int (nI j)]) (n := 2) (Nat.le_of_ble_eq_true rfl)
  rw [lg_entry_eq]
  generalize (lg_sl ([.ref x, .int (nI j)]) ++ List.replicate (2 - (lg_sl ([.ref x, .int (nI j)])).length) Slot.unset).toArray = ls at hl ⊢
  have hl : lv_has ls 2 [(0, .ref x), (1, .int (nI j))] := hl
  refine lv_iload_n hx hb dX2_barrelNumbered_0 rfl (lv_at hl 1 rfl) ?_
  refine lv_if_lt (tgt := 15) hx hb dX2_barrelNumbered_1 (by decide) (fun c1 => (nj_nn (by omega) c1).elim) (fun c1 => ?_)
  refine lv_iload_n hx hb dX2_barrelNumbered_4 rfl (lv_at hl 1 rfl) ?_
  refine lv_aload_n hx hb dX2_barrelNumbered_5 rfl (lv_at hl 0 rfl) ?_
  refine va_get (D := D) (ci := 2) (v := .ref r) (C := RX2) (T := TX2) (N := 4) hx hb hts (by decide +kernel) hown hK hP (0) rfl rfl 0 (by decide) (hts (.fieldLink RX2 10 "VinegarLoft" "row" "LVinegarLoft$Row;") (by decide +kernel)) (fun _ h9 => h9) rfl dX2_barrelNumbered_6 ?_
  refine va_get (D := D) (ci := 1) (v := .int (nI n)) (C := RX1) (T := TX1) (N := 5) hx hb hts (by decide +kernel) hown hK hP (1) rfl rfl 1 (by decide) (hts (.fieldLink RX2 100 "VinegarLoft$Row" "count" "I") (by decide +kernel)) (fun _ h9 => h9) rfl dX2_barrelNumbered_9 ?_
  refine lv_icmp_lt (tgt := 25) hx hb dX2_barrelNumbered_12 (by decide) (fun c12 => ?_) (fun c12 => (c12 (nj_lt hj hn)).elim)
  refine lv_aload_n hx hb dX2_barrelNumbered_25 rfl (lv_at hl 0 rfl) ?_
  refine va_get (D := D) (ci := 2) (v := .ref r) (C := RX2) (T := TX2) (N := 4) hx hb hts (by decide +kernel) hown hK hP (0) rfl rfl 0 (by decide) (hts (.fieldLink RX2 10 "VinegarLoft" "row" "LVinegarLoft$Row;") (by decide +kernel)) (fun _ h9 => h9) rfl dX2_barrelNumbered_26 ?_
  refine va_get (D := D) (ci := 1) (v := .ref la) (C := RX1) (T := TX1) (N := 5) hx hb hts (by decide +kernel) hown hK hP (1) rfl rfl 0 (by decide) (hts (.fieldLink RX2 138 "VinegarLoft$Row" "line" "[LVinegarLoft$Barrel;") (by decide +kernel)) (fun _ h9 => h9) rfl dX2_barrelNumbered_29 ?_
  refine lv_iload_n hx hb dX2_barrelNumbered_32 rfl (lv_at hl 1 rfl) ?_
  refine kx_ald hx hb hK hP 2 0 rfl rfl (j := j) rfl (by omega) dX2_barrelNumbered_33 ?_
  exact W.aret hx hb hr (Or.inl ⟨_, rfl⟩) (Or.inr ⟨_, rfl⟩) (fun t ht hW => ⟨_, rfl, rfl, ht⟩) (fun q hq => absurd hq List.not_mem_nil) dX2_barrelNumbered_34

set_option maxHeartbeats 4000000 in
set_option maxRecDepth 100000 in
theorem metR_litresIn (l : Launch) (D : va_G) (x r t d : Nat) (yg : Int32) (la : Nat) (bs : Nat → Nat) (cA cI : ClassId) (n : Nat) (hn : n ≤ 8) (wm df : Int32) (q : UInt64) (wd zs : Nat → Int32) (h : Nat → UInt64) (w3 : va_W) (j : Nat) (hj : j < n)  : Met l yX2_litresIn wsX2_litresIn { frames := 1, cells := 0, slots := 0, locals := 21 } (Pr D [(cA, .object "VinegarLoft$Barrel"), (cI, .int)] [.ref x, .int (nI j)] ([(x, EX r t d yg)] ++ (rowW r la bs cA (nI n) wm df q wd zs h ++ w3))) (vp_Sd (fun r : UInt64 => r = h j)) 0 0 (fun _ => False) := by
  refine Met.ofW (cc := cX2_litresIn) (maxL := 2) (ret := (some .double)) (by decide) rfl ?_
  intro p e s m args below meth c s₁ B hml hv
  obtain ⟨rfl, hP, hK⟩ := hv
  have hx := B.exec
  have hb := B.bytes
  have hr := B.returns
  have hts := atoms_spec (ws := wsX2_litresIn) B.pre
  have hown : s.vm.findClass RX2 = some m.cls := findClass_of_methodNamed B.named
  have hlocks := B.notSynchronized
  have hl := lv_entry ([.ref x, .int (nI j)]) (n := 2) (Nat.le_of_ble_eq_true rfl)
  rw [lg_entry_eq]
  generalize (lg_sl ([.ref x, .int (nI j)]) ++ List.replicate (2 - (lg_sl ([.ref x, .int (nI j)])).length) Slot.unset).toArray = ls at hl ⊢
  have hl : lv_has ls 2 [(0, .ref x), (1, .int (nI j))] := hl
  refine lv_aload_n hx hb dX2_litresIn_0 rfl (lv_at hl 0 rfl) ?_
  refine lv_iload_n hx hb dX2_litresIn_1 rfl (lv_at hl 1 rfl) ?_
  refine kr_a (W.runV (As := [.int (nI j)]) (rest := []) ⟨hx, hb, hml, hown, hts⟩ (metR_barrelNumbered l D x r t d yg la bs cA cI n hn wm df q wd zs h w3 j hj) (cwV 1 hts gX2_litresIn_X2_barrelNumbered rfl rfl rfl (by decide +kernel) ⟨Nat.le_of_ble_eq_true rfl, Nat.le_of_ble_eq_true rfl⟩) (prV 2 0 RX2 TX2 4 rfl rfl hP hK) rfl rfl hl.1 rfl (lv_room (Nat.le_of_ble_eq_true rfl)) dX2_litresIn_2 ⟨Nat.le_of_ble_eq_true rfl, Nat.le_of_ble_eq_true rfl⟩) ?_
  refine va_get (D := D) (ci := 0) (v := .double (h j)) (C := RX0) (T := TX0) (N := 6) hx hb hts (by decide +kernel) hown hK hP (1 + (2 + j)) (lofW_b (show j < 8 by omega)) rfl 2 (by decide) (hts (.fieldLink RX2 86 "VinegarLoft$Barrel" "litres" "D") (by decide +kernel)) (fun _ h9 => h9) rfl dX2_litresIn_5 ?_
  exact W.dret hx hb hr (fun t ht hW => ⟨_, rfl, rfl, ht⟩) (fun q hq => absurd hq List.not_mem_nil) dX2_litresIn_8

set_option maxHeartbeats 4000000 in
set_option maxRecDepth 100000 in
theorem metR_ageOf (l : Launch) (D : va_G) (x r t d : Nat) (yg : Int32) (la : Nat) (bs : Nat → Nat) (cA cI : ClassId) (n : Nat) (hn : n ≤ 8) (wm df : Int32) (q : UInt64) (wd zs : Nat → Int32) (h : Nat → UInt64) (w3 : va_W) (j : Nat) (hj : j < n)  : Met l yX2_ageOf wsX2_ageOf { frames := 1, cells := 0, slots := 0, locals := 21 } (Pr D [(cA, .object "VinegarLoft$Barrel"), (cI, .int)] [.ref x, .int (nI j)] ([(x, EX r t d yg)] ++ (rowW r la bs cA (nI n) wm df q wd zs h ++ w3))) (vp_Sd (fun r : UInt64 => r = h (8 + j))) 0 0 (fun _ => False) := by
  refine Met.ofW (cc := cX2_ageOf) (maxL := 2) (ret := (some .double)) (by decide) rfl ?_
  intro p e s m args below meth c s₁ B hml hv
  obtain ⟨rfl, hP, hK⟩ := hv
  have hx := B.exec
  have hb := B.bytes
  have hr := B.returns
  have hts := atoms_spec (ws := wsX2_ageOf) B.pre
  have hown : s.vm.findClass RX2 = some m.cls := findClass_of_methodNamed B.named
  have hlocks := B.notSynchronized
  have hl := lv_entry ([.ref x, .int (nI j)]) (n := 2) (Nat.le_of_ble_eq_true rfl)
  rw [lg_entry_eq]
  generalize (lg_sl ([.ref x, .int (nI j)]) ++ List.replicate (2 - (lg_sl ([.ref x, .int (nI j)])).length) Slot.unset).toArray = ls at hl ⊢
  have hl : lv_has ls 2 [(0, .ref x), (1, .int (nI j))] := hl
  refine lv_aload_n hx hb dX2_ageOf_0 rfl (lv_at hl 0 rfl) ?_
  refine lv_iload_n hx hb dX2_ageOf_1 rfl (lv_at hl 1 rfl) ?_
  refine kr_a (W.runV (As := [.int (nI j)]) (rest := []) ⟨hx, hb, hml, hown, hts⟩ (metR_barrelNumbered l D x r t d yg la bs cA cI n hn wm df q wd zs h w3 j hj) (cwV 1 hts gX2_ageOf_X2_barrelNumbered rfl rfl rfl (by decide +kernel) ⟨Nat.le_of_ble_eq_true rfl, Nat.le_of_ble_eq_true rfl⟩) (prV 2 0 RX2 TX2 4 rfl rfl hP hK) rfl rfl hl.1 rfl (lv_room (Nat.le_of_ble_eq_true rfl)) dX2_ageOf_2 ⟨Nat.le_of_ble_eq_true rfl, Nat.le_of_ble_eq_true rfl⟩) ?_
  refine va_get (D := D) (ci := 0) (v := .double (h (8 + j))) (C := RX0) (T := TX0) (N := 6) hx hb hts (by decide +kernel) hown hK hP (1 + (2 + j)) (lofW_b (show j < 8 by omega)) rfl 3 (by decide) (hts (.fieldLink RX2 103 "VinegarLoft$Barrel" "age" "D") (by decide +kernel)) (fun _ h9 => h9) rfl dX2_ageOf_5 ?_
  exact W.dret hx hb hr (fun t ht hW => ⟨_, rfl, rfl, ht⟩) (fun q hq => absurd hq List.not_mem_nil) dX2_ageOf_8

set_option maxHeartbeats 4000000 in
set_option maxRecDepth 100000 in
theorem metR_acidOf (l : Launch) (D : va_G) (x r t d : Nat) (yg : Int32) (la : Nat) (bs : Nat → Nat) (cA cI : ClassId) (n : Nat) (hn : n ≤ 8) (wm df : Int32) (q : UInt64) (wd zs : Nat → Int32) (h : Nat → UInt64) (w3 : va_W) (j : Nat) (hj : j < n)  : Met l yX2_acidOf wsX2_acidOf { frames := 1, cells := 0, slots := 0, locals := 21 } (Pr D [(cA, .object "VinegarLoft$Barrel"), (cI, .int)] [.ref x, .int (nI j)] ([(x, EX r t d yg)] ++ (rowW r la bs cA (nI n) wm df q wd zs h ++ w3))) (vp_Sd (fun r : UInt64 => r = h (16 + j))) 0 0 (fun _ => False) := by
  refine Met.ofW (cc := cX2_acidOf) (maxL := 2) (ret := (some .double)) (by decide) rfl ?_
  intro p e s m args below meth c s₁ B hml hv
  obtain ⟨rfl, hP, hK⟩ := hv
  have hx := B.exec
  have hb := B.bytes
  have hr := B.returns
  have hts := atoms_spec (ws := wsX2_acidOf) B.pre
  have hown : s.vm.findClass RX2 = some m.cls := findClass_of_methodNamed B.named
  have hlocks := B.notSynchronized
  have hl := lv_entry ([.ref x, .int (nI j)]) (n := 2) (Nat.le_of_ble_eq_true rfl)
  rw [lg_entry_eq]
  generalize (lg_sl ([.ref x, .int (nI j)]) ++ List.replicate (2 - (lg_sl ([.ref x, .int (nI j)])).length) Slot.unset).toArray = ls at hl ⊢
  have hl : lv_has ls 2 [(0, .ref x), (1, .int (nI j))] := hl
  refine lv_aload_n hx hb dX2_acidOf_0 rfl (lv_at hl 0 rfl) ?_
  refine lv_iload_n hx hb dX2_acidOf_1 rfl (lv_at hl 1 rfl) ?_
  refine kr_a (W.runV (As := [.int (nI j)]) (rest := []) ⟨hx, hb, hml, hown, hts⟩ (metR_barrelNumbered l D x r t d yg la bs cA cI n hn wm df q wd zs h w3 j hj) (cwV 1 hts gX2_acidOf_X2_barrelNumbered rfl rfl rfl (by decide +kernel) ⟨Nat.le_of_ble_eq_true rfl, Nat.le_of_ble_eq_true rfl⟩) (prV 2 0 RX2 TX2 4 rfl rfl hP hK) rfl rfl hl.1 rfl (lv_room (Nat.le_of_ble_eq_true rfl)) dX2_acidOf_2 ⟨Nat.le_of_ble_eq_true rfl, Nat.le_of_ble_eq_true rfl⟩) ?_
  refine va_get (D := D) (ci := 0) (v := .double (h (16 + j))) (C := RX0) (T := TX0) (N := 6) hx hb hts (by decide +kernel) hown hK hP (1 + (2 + j)) (lofW_b (show j < 8 by omega)) rfl 4 (by decide) (hts (.fieldLink RX2 106 "VinegarLoft$Barrel" "acid" "D") (by decide +kernel)) (fun _ h9 => h9) rfl dX2_acidOf_5 ?_
  exact W.dret hx hb hr (fun t ht hW => ⟨_, rfl, rfl, ht⟩) (fun q hq => absurd hq List.not_mem_nil) dX2_acidOf_8

set_option maxHeartbeats 4000000 in
set_option maxRecDepth 100000 in
theorem metR_sugarOf (l : Launch) (D : va_G) (x r t d : Nat) (yg : Int32) (la : Nat) (bs : Nat → Nat) (cA cI : ClassId) (n : Nat) (hn : n ≤ 8) (wm df : Int32) (q : UInt64) (wd zs : Nat → Int32) (h : Nat → UInt64) (w3 : va_W) (j : Nat) (hj : j < n)  : Met l yX2_sugarOf wsX2_sugarOf { frames := 1, cells := 0, slots := 0, locals := 21 } (Pr D [(cA, .object "VinegarLoft$Barrel"), (cI, .int)] [.ref x, .int (nI j)] ([(x, EX r t d yg)] ++ (rowW r la bs cA (nI n) wm df q wd zs h ++ w3))) (vp_Sd (fun r : UInt64 => r = h (24 + j))) 0 0 (fun _ => False) := by
  refine Met.ofW (cc := cX2_sugarOf) (maxL := 2) (ret := (some .double)) (by decide) rfl ?_
  intro p e s m args below meth c s₁ B hml hv
  obtain ⟨rfl, hP, hK⟩ := hv
  have hx := B.exec
  have hb := B.bytes
  have hr := B.returns
  have hts := atoms_spec (ws := wsX2_sugarOf) B.pre
  have hown : s.vm.findClass RX2 = some m.cls := findClass_of_methodNamed B.named
  have hlocks := B.notSynchronized
  have hl := lv_entry ([.ref x, .int (nI j)]) (n := 2) (Nat.le_of_ble_eq_true rfl)
  rw [lg_entry_eq]
  generalize (lg_sl ([.ref x, .int (nI j)]) ++ List.replicate (2 - (lg_sl ([.ref x, .int (nI j)])).length) Slot.unset).toArray = ls at hl ⊢
  have hl : lv_has ls 2 [(0, .ref x), (1, .int (nI j))] := hl
  refine lv_aload_n hx hb dX2_sugarOf_0 rfl (lv_at hl 0 rfl) ?_
  refine lv_iload_n hx hb dX2_sugarOf_1 rfl (lv_at hl 1 rfl) ?_
  refine kr_a (W.runV (As := [.int (nI j)]) (rest := []) ⟨hx, hb, hml, hown, hts⟩ (metR_barrelNumbered l D x r t d yg la bs cA cI n hn wm df q wd zs h w3 j hj) (cwV 1 hts gX2_sugarOf_X2_barrelNumbered rfl rfl rfl (by decide +kernel) ⟨Nat.le_of_ble_eq_true rfl, Nat.le_of_ble_eq_true rfl⟩) (prV 2 0 RX2 TX2 4 rfl rfl hP hK) rfl rfl hl.1 rfl (lv_room (Nat.le_of_ble_eq_true rfl)) dX2_sugarOf_2 ⟨Nat.le_of_ble_eq_true rfl, Nat.le_of_ble_eq_true rfl⟩) ?_
  refine va_get (D := D) (ci := 0) (v := .double (h (24 + j))) (C := RX0) (T := TX0) (N := 6) hx hb hts (by decide +kernel) hown hK hP (1 + (2 + j)) (lofW_b (show j < 8 by omega)) rfl 5 (by decide) (hts (.fieldLink RX2 109 "VinegarLoft$Barrel" "sugar" "D") (by decide +kernel)) (fun _ h9 => h9) rfl dX2_sugarOf_5 ?_
  exact W.dret hx hb hr (fun t ht hW => ⟨_, rfl, rfl, ht⟩) (fun q hq => absurd hq List.not_mem_nil) dX2_sugarOf_8

set_option maxHeartbeats 4000000 in
set_option maxRecDepth 100000 in
theorem metR_tasteOf (l : Launch) (D : va_G) (x r t d : Nat) (yg : Int32) (la : Nat) (bs : Nat → Nat) (cA cI : ClassId) (n : Nat) (hn : n ≤ 8) (wm df : Int32) (q : UInt64) (wd zs : Nat → Int32) (h : Nat → UInt64) (w3 : va_W) (j : Nat) (hj : j < n) (hT : FP.dcmp (h j) 0 ≠ none ∧ (FP.dcmp (h j) 0 = some .gt → tasok (h (8 + j)) (h (16 + j)) (h (24 + j)))) : Met l yX2_tasteOf wsX2_tasteOf { frames := 2, cells := 0, slots := 0, locals := 44 } (Pr D [(cA, .object "VinegarLoft$Barrel"), (cI, .int)] [.ref x, .int (nI j)] ([(x, EX r t d yg)] ++ (rowW r la bs cA (nI n) wm df q wd zs h ++ w3))) (vp_Sd (fun r : UInt64 => r = tasv (h j) (h (8 + j)) (h (16 + j)) (h (24 + j)))) 0 0 (fun _ => False) := by
  refine Met.ofW (cc := cX2_tasteOf) (maxL := 2) (ret := (some .double)) (by decide) rfl ?_
  intro p e s m args below meth c s₁ B hml hv
  obtain ⟨rfl, hP, hK⟩ := hv
  have hx := B.exec
  have hb := B.bytes
  have hr := B.returns
  have hts := atoms_spec (ws := wsX2_tasteOf) B.pre
  have hown : s.vm.findClass RX2 = some m.cls := findClass_of_methodNamed B.named
  have hlocks := B.notSynchronized
  have hl := lv_entry ([.ref x, .int (nI j)]) (n := 2) (Nat.le_of_ble_eq_true rfl)
  rw [lg_entry_eq]
  generalize (lg_sl ([.ref x, .int (nI j)]) ++ List.replicate (2 - (lg_sl ([.ref x, .int (nI j)])).length) Slot.unset).toArray = ls at hl ⊢
  have hl : lv_has ls 2 [(0, .ref x), (1, .int (nI j))] := hl
  refine lv_aload_n hx hb dX2_tasteOf_0 rfl (lv_at hl 0 rfl) ?_
  refine lv_iload_n hx hb dX2_tasteOf_1 rfl (lv_at hl 1 rfl) ?_
  refine kr_a (W.runV (As := [.int (nI j)]) (rest := []) ⟨hx, hb, hml, hown, hts⟩ (metR_barrelNumbered l D x r t d yg la bs cA cI n hn wm df q wd zs h w3 j hj) (cwV 1 hts gX2_tasteOf_X2_barrelNumbered rfl rfl rfl (by decide +kernel) ⟨Nat.le_of_ble_eq_true rfl, Nat.le_of_ble_eq_true rfl⟩) (prV 2 0 RX2 TX2 4 rfl rfl hP hK) rfl rfl hl.1 rfl (lv_room (Nat.le_of_ble_eq_true rfl)) dX2_tasteOf_2 ⟨Nat.le_of_ble_eq_true rfl, Nat.le_of_ble_eq_true rfl⟩) ?_
  refine kr_d (W.runV (As := []) (rest := []) ⟨hx, hb, hml, hown, hts⟩ (metX0_taste l D (bs j) (wd j) (zs j) (h j) (h (8 + j)) (h (16 + j)) (h (24 + j)) hT.1 hT.2) (cwV 0 hts gX2_tasteOf_X0_taste rfl rfl rfl (by decide +kernel) ⟨Nat.le_of_ble_eq_true rfl, Nat.le_of_ble_eq_true rfl⟩) (prV 0 0 RX0 TX0 6 rfl rfl (vj_oP (lofW_b (show j < 8 by omega)) hP) (hK.sub [] rfl)) rfl rfl hl.1 rfl (lv_room (Nat.le_of_ble_eq_true rfl)) dX2_tasteOf_5 ⟨Nat.le_of_ble_eq_true rfl, Nat.le_of_ble_eq_true rfl⟩) ?_
  exact W.dret hx hb hr (fun t ht hW => ⟨_, rfl, rfl, ht⟩) (fun q hq => absurd hq List.not_mem_nil) dX2_tasteOf_8

set_option maxHeartbeats 4000000 in
set_option maxRecDepth 100000 in
theorem metR_bottles (l : Launch) (D : va_G) (x r t d : Nat) (yg : Int32) (la : Nat) (bs : Nat → Nat) (cA cI : ClassId) (n : Nat) (hn : n ≤ 8) (wm df : Int32) (q : UInt64) (wd zs : Nat → Int32) (h : Nat → UInt64) (w4 : va_W) (dk : Nat → Int32) (j : Nat) (hj : j < 3)  : Met l yX2_bottles wsX2_bottles { frames := 0, cells := 0, slots := 0, locals := 0 } (Pr D [(cA, .object "VinegarLoft$Barrel"), (cI, .int)] [.ref x, .int (nI j)] ([(x, EX r t d yg)] ++ (rowW r la bs cA (nI n) wm df q wd zs h ++ (w4 ++ [(d, ED cI dk)])))) (vp_Si (fun r : Int32 => r = dk j)) 0 0 (fun _ => False) := by
  refine Met.ofW (cc := cX2_bottles) (maxL := 2) (ret := (some .int)) (by decide) rfl ?_
  intro p e s m args below meth c s₁ B hml hv
  obtain ⟨rfl, hP, hK⟩ := hv
  have hx := B.exec
  have hb := B.bytes
  have hr := B.returns
  have hts := atoms_spec (ws := wsX2_bottles) B.pre
  have hown : s.vm.findClass RX2 = some m.cls := findClass_of_methodNamed B.named
  have hlocks := B.notSynchronized
  have hl := lv_entry ([.ref x, .int (nI j)]) (n := 2) (Nat.le_of_ble_eq_true rfl)
  rw [lg_entry_eq]
  generalize (lg_sl ([.ref x, .int (nI j)]) ++ List.replicate (2 - (lg_sl ([.ref x, .int (nI j)])).length) Slot.unset).toArray = ls at hl ⊢
  have hl : lv_has ls 2 [(0, .ref x), (1, .int (nI j))] := hl
  refine lv_iload_n hx hb dX2_bottles_0 rfl (lv_at hl 1 rfl) ?_
  refine lv_if_lt (tgt := 9) hx hb dX2_bottles_1 (by decide) (fun c1 => (nj_nn (by omega) c1).elim) (fun c1 => ?_)
  refine lv_iload_n hx hb dX2_bottles_4 rfl (lv_at hl 1 rfl) ?_
  refine lv_iconst (v := 3) hx hb dX2_bottles_5 (by decide) ?_
  refine lv_icmp_lt (tgt := 19) hx hb dX2_bottles_6 (by decide) (fun c6 => ?_) (fun c6 => (c6 (nI_lt (a := j) (b := 3) hj (by decide))).elim)
  refine lv_aload_n hx hb dX2_bottles_19 rfl (lv_at hl 0 rfl) ?_
  refine va_get (D := D) (ci := 2) (v := .ref d) (C := RX2) (T := TX2) (N := 4) hx hb hts (by decide +kernel) hown hK hP (0) rfl rfl 2 (by decide) (hts (.fieldLink RX2 19 "VinegarLoft" "drawnByKind" "[I") (by decide +kernel)) (fun _ h9 => h9) rfl dX2_bottles_20 ?_
  refine lv_iload_n hx hb dX2_bottles_23 rfl (lv_at hl 1 rfl) ?_
  refine va_iald hx hb hK hP (1 + (10 + w4.length)) 1 lofW_d rfl (vp_in_nI hj (by decide)) dX2_bottles_24 ?_
  rw [nI_clamp (show j < 2 ^ 31 by omega)]
  exact W.iret hx hb hr (fun t ht hW => ⟨_, rfl, rfl, ht⟩) (fun q hq => absurd hq List.not_mem_nil) dX2_bottles_25

