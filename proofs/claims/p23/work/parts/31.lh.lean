/-! the law's small helpers (laid by wip/p23/prog/y1.py) -/
/-- one number of the script, or one made of its place -/
def itsv (L : Nat) (xs : Nat → Int32) (i : Nat) : Int32 := if i < L then xs i else 46337 * nI i + 2593
def drnv (L : Nat) (xs : Nat → Int32) (i k : Nat) : Int32 := ((itsv L xs i).toUInt32 >>> ((1 : Int32).toUInt32 &&& Int32.toUInt32 31)).toInt32 - ((itsv L xs i).toUInt32 >>> ((1 : Int32).toUInt32 &&& Int32.toUInt32 31)).toInt32 / nI k * nI k
def Px (b L : Nat) (xs : Nat → Int32) (av : List Value) : Array Value → State → Prop := va_Pc av (fun U => va_X b L xs U U.heap ∧ b < U.heap.size)
theorem Px_blind {b L : Nat} {xs : Nat → Int32} {av : List Value} : FrameBlind (Px b L xs av) := fun a U g mk q => by
  obtain ⟨q0, qX, qb⟩ := q
  exact ⟨q0, va_X.moved (u := U) (U := U.calling g mk a) (Vm.Alike.refl U.vm) qX, qb⟩
theorem pxS {s : State} {H : Heap} {b L : Nat} {xs : Nat → Int32} {As : List Value} (hX : va_X b L xs s H) (hb : b < H.size) : PreS s H (Px b L xs As) As :=
  ⟨Px_blind, fun U hU hW => ⟨rfl, by rw [hU]; exact va_X.moved hW.alike hX, by rw [hU]; exact hb⟩⟩
/-- a millionth -/
abbrev c6 : UInt64 := 4517329193108106637
abbrev c1 : UInt64 := 4607182418800017408
def apv (a b : UInt64) : UInt64 := if FP.dcmp a b = some .gt then FP.dsub a b else FP.dsub b a
def mov (a : UInt64) : UInt64 := if FP.dcmp a c1 = some .gt then a else c1
/-- what isNear asks -/
def near (a b : UInt64) : Prop := NF a ∧ NF b ∧ vf_n64 (FP.dmul c6 (mov a)) ∧ FP.dcmp (apv a b) (FP.dmul c6 (mov a)) = some .lt
theorem near_ne {a b : UInt64} (h : near a b) : FP.dcmp a b ≠ none := cmp_ne h.1.nn.ne h.2.1.nn.ne
theorem near_s1 {a b : UInt64} (h : near a b) : vf_n64 (FP.dsub a b) := n64_of (dsub_ne h.1.fin h.2.1.fin)
theorem near_s2 {a b : UInt64} (h : near a b) : vf_n64 (FP.dsub b a) := n64_of (dsub_ne h.2.1.fin h.1.fin)
theorem near_n1 {a b : UInt64} (h : near a b) : FP.dcmp a c1 ≠ none := cmp_ne h.1.nn.ne (NN.ne (by unfold NN; decide +kernel))
theorem near_lt {a b : UInt64} (h : near a b) : FP.dcmp (apv a b) (FP.dmul c6 (mov a)) = some .lt := h.2.2.2
set_option maxHeartbeats 4000000 in
set_option maxRecDepth 100000 in
theorem metL_isNear (l : Launch) (D : va_G) (a b : UInt64) (hab : near a b) : Met l yL_isNear wsL_isNear { frames := 0, cells := 0, slots := 0, locals := 0 } (Pr D [] [.double a, .double b] ([])) (vp_Si (fun r : Int32 => r = 1)) 0 0 (fun _ => False) := by
  refine Met.ofW (cc := cL_isNear) (maxL := 8) (ret := (some .boolean)) (by decide) rfl ?_
  intro p e s m args below meth c s₁ B hml hv
  obtain ⟨rfl, hP, hK⟩ := hv
  have hx := B.exec
  have hb := B.bytes
  have hr := B.returns
  have hts := atoms_spec (ws := wsL_isNear) B.pre
  have hown : s.vm.findClass RL = some m.cls := findClass_of_methodNamed B.named
  have hlocks := B.notSynchronized
  have hl := lv_entry ([.double a, .double b]) (n := 8) (Nat.le_of_ble_eq_true rfl)
  rw [lg_entry_eq]
  generalize (lg_sl ([.double a, .double b]) ++ List.replicate (8 - (lg_sl ([.double a, .double b])).length) Slot.unset).toArray = ls at hl ⊢
  have hl : lv_has ls 8 [(0, .double a), (2, .double b)] := hl
  refine lv_dload_n hx hb dL_isNear_0 rfl (lv_at hl 0 rfl) ?_
  refine lv_dload_n hx hb dL_isNear_1 rfl (lv_at hl 1 rfl) ?_
  refine kd_le (tgt := 12) hx hb dL_isNear_2 dL_isNear_3 (by decide) (near_ne hab) (fun c2 => ?_) (fun c2 => ?_)
  · refine lv_dload_n hx hb dL_isNear_12 rfl (lv_at hl 1 rfl) ?_
    refine lv_dload_n hx hb dL_isNear_13 rfl (lv_at hl 0 rfl) ?_
    refine lv_dsub hx hb dL_isNear_14 (near_s2 hab) ?_
    refine kd_eq (show (FP.dsub b a) = apv a b from by unfold apv; rw [if_neg c2]) ?_
    refine lv_dstore (lv' := [(4, .double (apv a b)), (0, .double a), (2, .double b)]) hx hb dL_isNear_15 hl (by decide) rfl (fun ls hl => ?_)
    refine lv_dload_n hx hb dL_isNear_17 rfl (lv_at hl 1 rfl) ?_
    refine kd_1 hx hb dL_isNear_18 ?_
    refine kd_le (tgt := 27) hx hb dL_isNear_19 dL_isNear_20 (by decide) (near_n1 hab) (fun c19 => ?_) (fun c19 => ?_)
    · refine kd_1 hx hb dL_isNear_27 ?_
      refine kd_eq (show 4607182418800017408 = mov a from by unfold mov; rw [if_neg c19]) ?_
      refine lv_dstore (lv' := [(6, .double (mov a)), (4, .double (apv a b)), (0, .double a), (2, .double b)]) hx hb dL_isNear_28 hl (by decide) rfl (fun ls hl => ?_)
      refine lv_dload hx hb dL_isNear_30 (lv_at hl 1 rfl) ?_
      refine lv_ldc2d hx hb hown (hts (.constantDouble RL 8 4517329193108106637) (by decide +kernel)) dL_isNear_32 ?_
      refine lv_dload hx hb dL_isNear_35 (lv_at hl 0 rfl) ?_
      refine lv_dmul hx hb dL_isNear_37 hab.2.2.1 ?_
      refine kd_ge (tgt := 46) hx hb dL_isNear_38 dL_isNear_39 (by decide) (lt_ne (near_lt hab)) (fun c38 => (c38 (near_lt hab)).elim) (fun c38 => ?_)
      refine lv_iconst (v := 1) hx hb dL_isNear_42 (by decide) ?_
      refine lv_goto (tgt := 47) hx hb dL_isNear_43 (by decide) ?_
      exact W.zret hx hb hr (by first | rfl | decide) (fun t ht hW => ⟨_, rfl, rfl, ht⟩) (fun q hq => absurd hq List.not_mem_nil) dL_isNear_47
    · refine lv_dload_n hx hb dL_isNear_23 rfl (lv_at hl 1 rfl) ?_
      refine lv_goto (tgt := 28) hx hb dL_isNear_24 (by decide) ?_
      refine kd_eq (show a = mov a from by unfold mov; rw [if_pos c19]) ?_
      refine lv_dstore (lv' := [(6, .double (mov a)), (4, .double (apv a b)), (0, .double a), (2, .double b)]) hx hb dL_isNear_28 hl (by decide) rfl (fun ls hl => ?_)
      refine lv_dload hx hb dL_isNear_30 (lv_at hl 1 rfl) ?_
      refine lv_ldc2d hx hb hown (hts (.constantDouble RL 8 4517329193108106637) (by decide +kernel)) dL_isNear_32 ?_
      refine lv_dload hx hb dL_isNear_35 (lv_at hl 0 rfl) ?_
      refine lv_dmul hx hb dL_isNear_37 hab.2.2.1 ?_
      refine kd_ge (tgt := 46) hx hb dL_isNear_38 dL_isNear_39 (by decide) (lt_ne (near_lt hab)) (fun c38 => (c38 (near_lt hab)).elim) (fun c38 => ?_)
      refine lv_iconst (v := 1) hx hb dL_isNear_42 (by decide) ?_
      refine lv_goto (tgt := 47) hx hb dL_isNear_43 (by decide) ?_
      exact W.zret hx hb hr (by first | rfl | decide) (fun t ht hW => ⟨_, rfl, rfl, ht⟩) (fun q hq => absurd hq List.not_mem_nil) dL_isNear_47
  · refine lv_dload_n hx hb dL_isNear_6 rfl (lv_at hl 0 rfl) ?_
    refine lv_dload_n hx hb dL_isNear_7 rfl (lv_at hl 1 rfl) ?_
    refine lv_dsub hx hb dL_isNear_8 (near_s1 hab) ?_
    refine lv_goto (tgt := 15) hx hb dL_isNear_9 (by decide) ?_
    refine kd_eq (show (FP.dsub a b) = apv a b from by unfold apv; rw [if_pos c2]) ?_
    refine lv_dstore (lv' := [(4, .double (apv a b)), (0, .double a), (2, .double b)]) hx hb dL_isNear_15 hl (by decide) rfl (fun ls hl => ?_)
    refine lv_dload_n hx hb dL_isNear_17 rfl (lv_at hl 1 rfl) ?_
    refine kd_1 hx hb dL_isNear_18 ?_
    refine kd_le (tgt := 27) hx hb dL_isNear_19 dL_isNear_20 (by decide) (near_n1 hab) (fun c19 => ?_) (fun c19 => ?_)
    · refine kd_1 hx hb dL_isNear_27 ?_
      refine kd_eq (show 4607182418800017408 = mov a from by unfold mov; rw [if_neg c19]) ?_
      refine lv_dstore (lv' := [(6, .double (mov a)), (4, .double (apv a b)), (0, .double a), (2, .double b)]) hx hb dL_isNear_28 hl (by decide) rfl (fun ls hl => ?_)
      refine lv_dload hx hb dL_isNear_30 (lv_at hl 1 rfl) ?_
      refine lv_ldc2d hx hb hown (hts (.constantDouble RL 8 4517329193108106637) (by decide +kernel)) dL_isNear_32 ?_
      refine lv_dload hx hb dL_isNear_35 (lv_at hl 0 rfl) ?_
      refine lv_dmul hx hb dL_isNear_37 hab.2.2.1 ?_
      refine kd_ge (tgt := 46) hx hb dL_isNear_38 dL_isNear_39 (by decide) (lt_ne (near_lt hab)) (fun c38 => (c38 (near_lt hab)).elim) (fun c38 => ?_)
      refine lv_iconst (v := 1) hx hb dL_isNear_42 (by decide) ?_
      refine lv_goto (tgt := 47) hx hb dL_isNear_43 (by decide) ?_
      exact W.zret hx hb hr (by first | rfl | decide) (fun t ht hW => ⟨_, rfl, rfl, ht⟩) (fun q hq => absurd hq List.not_mem_nil) dL_isNear_47
    · refine lv_dload_n hx hb dL_isNear_23 rfl (lv_at hl 1 rfl) ?_
      refine lv_goto (tgt := 28) hx hb dL_isNear_24 (by decide) ?_
      refine kd_eq (show a = mov a from by unfold mov; rw [if_pos c19]) ?_
      refine lv_dstore (lv' := [(6, .double (mov a)), (4, .double (apv a b)), (0, .double a), (2, .double b)]) hx hb dL_isNear_28 hl (by decide) rfl (fun ls hl => ?_)
      refine lv_dload hx hb dL_isNear_30 (lv_at hl 1 rfl) ?_
      refine lv_ldc2d hx hb hown (hts (.constantDouble RL 8 4517329193108106637) (by decide +kernel)) dL_isNear_32 ?_
      refine lv_dload hx hb dL_isNear_35 (lv_at hl 0 rfl) ?_
      refine lv_dmul hx hb dL_isNear_37 hab.2.2.1 ?_
      refine kd_ge (tgt := 46) hx hb dL_isNear_38 dL_isNear_39 (by decide) (lt_ne (near_lt hab)) (fun c38 => (c38 (near_lt hab)).elim) (fun c38 => ?_)
      refine lv_iconst (v := 1) hx hb dL_isNear_42 (by decide) ?_
      refine lv_goto (tgt := 47) hx hb dL_isNear_43 (by decide) ?_
      exact W.zret hx hb hr (by first | rfl | decide) (fun t ht hW => ⟨_, rfl, rfl, ht⟩) (fun q hq => absurd hq List.not_mem_nil) dL_isNear_47

set_option maxHeartbeats 4000000 in
set_option maxRecDepth 100000 in
theorem metL_litres (l : Launch) (D : va_G) (x r t d : Nat) (yg : Int32) (la : Nat) (bs : Nat → Nat) (cA cI : ClassId) (n : Nat) (hn : n ≤ 8) (wm df : Int32) (q : UInt64) (wd zs : Nat → Int32) (h : Nat → UInt64) (w3 : va_W) (ho : suLok h n) : Met l yL_litres wsL_litres { frames := 2, cells := 0, slots := 0, locals := 42 } (Pr D [(cA, .object "VinegarLoft$Barrel"), (cI, .int)] [.ref x] ([(x, EX r t d yg)] ++ (rowW r la bs cA (nI n) wm df q wd zs h ++ w3))) (vp_Sd (fun r : UInt64 => r = suL h n)) 0 0 (fun _ => False) := by
  refine Met.ofW (cc := cL_litres) (maxL := 4) (ret := (some .double)) (by decide) rfl ?_
  intro p e s m args below meth c s₁ B hml hv
  obtain ⟨rfl, hP, hK⟩ := hv
  have hx := B.exec
  have hb := B.bytes
  have hr := B.returns
  have hts := atoms_spec (ws := wsL_litres) B.pre
  have hown : s.vm.findClass RL = some m.cls := findClass_of_methodNamed B.named
  have hlocks := B.notSynchronized
  have hl := lv_entry ([.ref x]) (n := 4) (Nat.le_of_ble_eq_true rfl)
  rw [lg_entry_eq]
  generalize (lg_sl ([.ref x]) ++ List.replicate (4 - (lg_sl ([.ref x])).length) Slot.unset).toArray = ls at hl ⊢
  have hl : lv_has ls 4 [(0, .ref x)] := hl
  refine kd_0 hx hb dL_litres_0 ?_
  refine lv_dstore_n (lv' := [(1, .double 0), (0, .ref x)]) hx hb dL_litres_1 rfl hl (by decide) rfl (fun ls hl => ?_)
  refine lv_iconst (v := 0) hx hb dL_litres_2 (by decide) ?_
  refine lv_istore_n (lv' := [(3, .int 0), (1, .double 0), (0, .ref x)]) hx hb dL_litres_3 rfl hl (by decide) rfl (fun ls hl => ?_)
  refine kW_upR (n) (fun i ls => lv_has ls 4 [(3, .int (nI i)), (1, .double (suL h i)), (0, .ref x)]) (fun i ls hi hl ih => ?_) (fun ls hl => ?_) (lv_sub hl [0, 1, 2] (rfl))
  · refine lv_iload_n hx hb dL_litres_4 rfl (lv_at hl 0 rfl) ?_
    refine lv_aload_n hx hb dL_litres_5 rfl (lv_at hl 2 rfl) ?_
    refine kr_i (W.runV (As := []) (rest := [.int (nI i)]) ⟨hx, hb, hml, hown, hts⟩ (metX2_barrels l D x r t d yg la bs cA cI n hn wm df q wd zs h w3 ) (cwV 0 hts gL_litres_X2_barrels rfl rfl rfl (by decide +kernel) ⟨Nat.le_of_ble_eq_true rfl, Nat.le_of_ble_eq_true rfl⟩) (prV 2 0 RX2 TX2 4 rfl rfl hP hK) rfl rfl hl.1 rfl (lv_room (Nat.le_of_ble_eq_true rfl)) dL_litres_6 ⟨Nat.le_of_ble_eq_true rfl, Nat.le_of_ble_eq_true rfl⟩) ?_
    refine lv_icmp_ge (tgt := 26) hx hb dL_litres_9 (by decide) (fun c9 => (i32_le_nlt c9 (nj_lt hi hn)).elim) (fun c9 => ?_)
    refine lv_dload_n hx hb dL_litres_12 rfl (lv_at hl 1 rfl) ?_
    refine lv_aload_n hx hb dL_litres_13 rfl (lv_at hl 2 rfl) ?_
    refine lv_iload_n hx hb dL_litres_14 rfl (lv_at hl 0 rfl) ?_
    refine kr_d (W.runV (As := [.int (nI i)]) (rest := [.double (suL h i)]) ⟨hx, hb, hml, hown, hts⟩ (metR_litresIn l D x r t d yg la bs cA cI n hn wm df q wd zs h w3 i hi ) (cwV 1 hts gL_litres_X2_litresIn rfl rfl rfl (by decide +kernel) ⟨Nat.le_of_ble_eq_true rfl, Nat.le_of_ble_eq_true rfl⟩) (prV 2 0 RX2 TX2 4 rfl rfl hP hK) rfl rfl hl.1 rfl (lv_room (Nat.le_of_ble_eq_true rfl)) dL_litres_15 ⟨Nat.le_of_ble_eq_true rfl, Nat.le_of_ble_eq_true rfl⟩) ?_
    refine lv_dadd hx hb dL_litres_18 (ho i hi) ?_
    refine lv_dstore_n (lv' := [(1, .double (FP.dadd (suL h i) (h i))), (3, .int (nI i)), (0, .ref x)]) hx hb dL_litres_19 rfl hl (by decide) rfl (fun ls hl => ?_)
    refine lv_iinc (v := nI (i + 1)) (lv' := [(3, .int (nI (i + 1))), (1, .double (FP.dadd (suL h i) (h i))), (0, .ref x)]) hx hb dL_litres_20 hl (k := 1) rfl (nI_1 i) (by decide) rfl (fun ls hl => ?_)
    refine lv_goto (tgt := 4) hx hb dL_litres_23 (by decide) ?_
    exact ih ls (lv_sub hl [0, 1, 2] (rfl))
  · refine lv_iload_n hx hb dL_litres_4 rfl (lv_at hl 0 rfl) ?_
    refine lv_aload_n hx hb dL_litres_5 rfl (lv_at hl 2 rfl) ?_
    refine kr_i (W.runV (As := []) (rest := [.int (nI n)]) ⟨hx, hb, hml, hown, hts⟩ (metX2_barrels l D x r t d yg la bs cA cI n hn wm df q wd zs h w3 ) (cwV 0 hts gL_litres_X2_barrels rfl rfl rfl (by decide +kernel) ⟨Nat.le_of_ble_eq_true rfl, Nat.le_of_ble_eq_true rfl⟩) (prV 2 0 RX2 TX2 4 rfl rfl hP hK) rfl rfl hl.1 rfl (lv_room (Nat.le_of_ble_eq_true rfl)) dL_litres_6 ⟨Nat.le_of_ble_eq_true rfl, Nat.le_of_ble_eq_true rfl⟩) ?_
    refine lv_icmp_ge (tgt := 26) hx hb dL_litres_9 (by decide) (fun c9 => ?_) (fun c9 => (c9 (Int32.le_refl _)).elim)
    refine lv_dload_n hx hb dL_litres_26 rfl (lv_at hl 1 rfl) ?_
    exact W.dret hx hb hr (fun t ht hW => ⟨_, rfl, rfl, ht⟩) (fun q hq => absurd hq List.not_mem_nil) dL_litres_27

set_option maxHeartbeats 4000000 in
set_option maxRecDepth 100000 in
theorem metL_acid (l : Launch) (D : va_G) (x r t d : Nat) (yg : Int32) (la : Nat) (bs : Nat → Nat) (cA cI : ClassId) (n : Nat) (hn : n ≤ 8) (wm df : Int32) (q : UInt64) (wd zs : Nat → Int32) (h : Nat → UInt64) (w3 : va_W) (ho : suPok 16 h n) : Met l yL_acid wsL_acid { frames := 2, cells := 0, slots := 0, locals := 42 } (Pr D [(cA, .object "VinegarLoft$Barrel"), (cI, .int)] [.ref x] ([(x, EX r t d yg)] ++ (rowW r la bs cA (nI n) wm df q wd zs h ++ w3))) (vp_Sd (fun r : UInt64 => r = suP 16 h n)) 0 0 (fun _ => False) := by
  refine Met.ofW (cc := cL_acid) (maxL := 4) (ret := (some .double)) (by decide) rfl ?_
  intro p e s m args below meth c s₁ B hml hv
  obtain ⟨rfl, hP, hK⟩ := hv
  have hx := B.exec
  have hb := B.bytes
  have hr := B.returns
  have hts := atoms_spec (ws := wsL_acid) B.pre
  have hown : s.vm.findClass RL = some m.cls := findClass_of_methodNamed B.named
  have hlocks := B.notSynchronized
  have hl := lv_entry ([.ref x]) (n := 4) (Nat.le_of_ble_eq_true rfl)
  rw [lg_entry_eq]
  generalize (lg_sl ([.ref x]) ++ List.replicate (4 - (lg_sl ([.ref x])).length) Slot.unset).toArray = ls at hl ⊢
  have hl : lv_has ls 4 [(0, .ref x)] := hl
  refine kd_0 hx hb dL_acid_0 ?_
  refine lv_dstore_n (lv' := [(1, .double 0), (0, .ref x)]) hx hb dL_acid_1 rfl hl (by decide) rfl (fun ls hl => ?_)
  refine lv_iconst (v := 0) hx hb dL_acid_2 (by decide) ?_
  refine lv_istore_n (lv' := [(3, .int 0), (1, .double 0), (0, .ref x)]) hx hb dL_acid_3 rfl hl (by decide) rfl (fun ls hl => ?_)
  refine kW_upR (n) (fun i ls => lv_has ls 4 [(3, .int (nI i)), (1, .double (suP 16 h i)), (0, .ref x)]) (fun i ls hi hl ih => ?_) (fun ls hl => ?_) (lv_sub hl [0, 1, 2] (rfl))
  · refine lv_iload_n hx hb dL_acid_4 rfl (lv_at hl 0 rfl) ?_
    refine lv_aload_n hx hb dL_acid_5 rfl (lv_at hl 2 rfl) ?_
    refine kr_i (W.runV (As := []) (rest := [.int (nI i)]) ⟨hx, hb, hml, hown, hts⟩ (metX2_barrels l D x r t d yg la bs cA cI n hn wm df q wd zs h w3 ) (cwV 0 hts gL_acid_X2_barrels rfl rfl rfl (by decide +kernel) ⟨Nat.le_of_ble_eq_true rfl, Nat.le_of_ble_eq_true rfl⟩) (prV 2 0 RX2 TX2 4 rfl rfl hP hK) rfl rfl hl.1 rfl (lv_room (Nat.le_of_ble_eq_true rfl)) dL_acid_6 ⟨Nat.le_of_ble_eq_true rfl, Nat.le_of_ble_eq_true rfl⟩) ?_
    refine lv_icmp_ge (tgt := 32) hx hb dL_acid_9 (by decide) (fun c9 => (i32_le_nlt c9 (nj_lt hi hn)).elim) (fun c9 => ?_)
    refine lv_dload_n hx hb dL_acid_12 rfl (lv_at hl 1 rfl) ?_
    refine lv_aload_n hx hb dL_acid_13 rfl (lv_at hl 2 rfl) ?_
    refine lv_iload_n hx hb dL_acid_14 rfl (lv_at hl 0 rfl) ?_
    refine kr_d (W.runV (As := [.int (nI i)]) (rest := [.double (suP 16 h i)]) ⟨hx, hb, hml, hown, hts⟩ (metR_litresIn l D x r t d yg la bs cA cI n hn wm df q wd zs h w3 i hi ) (cwV 1 hts gL_acid_X2_litresIn rfl rfl rfl (by decide +kernel) ⟨Nat.le_of_ble_eq_true rfl, Nat.le_of_ble_eq_true rfl⟩) (prV 2 0 RX2 TX2 4 rfl rfl hP hK) rfl rfl hl.1 rfl (lv_room (Nat.le_of_ble_eq_true rfl)) dL_acid_15 ⟨Nat.le_of_ble_eq_true rfl, Nat.le_of_ble_eq_true rfl⟩) ?_
    refine lv_aload_n hx hb dL_acid_18 rfl (lv_at hl 2 rfl) ?_
    refine lv_iload_n hx hb dL_acid_19 rfl (lv_at hl 0 rfl) ?_
    refine kr_d (W.runV (As := [.int (nI i)]) (rest := [.double (h i), .double (suP 16 h i)]) ⟨hx, hb, hml, hown, hts⟩ (metR_acidOf l D x r t d yg la bs cA cI n hn wm df q wd zs h w3 i hi ) (cwV 1 hts gL_acid_X2_acidOf rfl rfl rfl (by decide +kernel) ⟨Nat.le_of_ble_eq_true rfl, Nat.le_of_ble_eq_true rfl⟩) (prV 2 0 RX2 TX2 4 rfl rfl hP hK) rfl rfl hl.1 rfl (lv_room (Nat.le_of_ble_eq_true rfl)) dL_acid_20 ⟨Nat.le_of_ble_eq_true rfl, Nat.le_of_ble_eq_true rfl⟩) ?_
    refine lv_dmul hx hb dL_acid_23 (ho i hi).1 ?_
    refine lv_dadd hx hb dL_acid_24 (ho i hi).2 ?_
    refine lv_dstore_n (lv' := [(1, .double (FP.dadd (suP 16 h i) (FP.dmul (h i) (h (16 + i))))), (3, .int (nI i)), (0, .ref x)]) hx hb dL_acid_25 rfl hl (by decide) rfl (fun ls hl => ?_)
    refine lv_iinc (v := nI (i + 1)) (lv' := [(3, .int (nI (i + 1))), (1, .double (FP.dadd (suP 16 h i) (FP.dmul (h i) (h (16 + i))))), (0, .ref x)]) hx hb dL_acid_26 hl (k := 1) rfl (nI_1 i) (by decide) rfl (fun ls hl => ?_)
    refine lv_goto (tgt := 4) hx hb dL_acid_29 (by decide) ?_
    exact ih ls (lv_sub hl [0, 1, 2] (rfl))
  · refine lv_iload_n hx hb dL_acid_4 rfl (lv_at hl 0 rfl) ?_
    refine lv_aload_n hx hb dL_acid_5 rfl (lv_at hl 2 rfl) ?_
    refine kr_i (W.runV (As := []) (rest := [.int (nI n)]) ⟨hx, hb, hml, hown, hts⟩ (metX2_barrels l D x r t d yg la bs cA cI n hn wm df q wd zs h w3 ) (cwV 0 hts gL_acid_X2_barrels rfl rfl rfl (by decide +kernel) ⟨Nat.le_of_ble_eq_true rfl, Nat.le_of_ble_eq_true rfl⟩) (prV 2 0 RX2 TX2 4 rfl rfl hP hK) rfl rfl hl.1 rfl (lv_room (Nat.le_of_ble_eq_true rfl)) dL_acid_6 ⟨Nat.le_of_ble_eq_true rfl, Nat.le_of_ble_eq_true rfl⟩) ?_
    refine lv_icmp_ge (tgt := 32) hx hb dL_acid_9 (by decide) (fun c9 => ?_) (fun c9 => (c9 (Int32.le_refl _)).elim)
    refine lv_dload_n hx hb dL_acid_32 rfl (lv_at hl 1 rfl) ?_
    exact W.dret hx hb hr (fun t ht hW => ⟨_, rfl, rfl, ht⟩) (fun q hq => absurd hq List.not_mem_nil) dL_acid_33

set_option maxHeartbeats 4000000 in
set_option maxRecDepth 100000 in
theorem metL_drawn (l : Launch) (b L : Nat) (xs : Nat → Int32) (hL : L ≤ 260) (i k : Nat) (hi : i < 1000) (hk0 : ¬ nI k = 0) : Met l yL_drawn wsL_drawn { frames := 0, cells := 0, slots := 0, locals := 0 } (Px b L xs [.ref b, .int (nI i), .int (nI k)]) (vp_Si (fun r : Int32 => r = drnv L xs i k)) 0 0 (fun _ => False) := by
  refine Met.ofW (cc := cL_drawn) (maxL := 4) (ret := (some .int)) (by decide) rfl ?_
  intro p e s m args below meth c s₁ B hml hv
  obtain ⟨rfl, hX, hbl⟩ := hv
  have hx := B.exec
  have hb := B.bytes
  have hr := B.returns
  have hts := atoms_spec (ws := wsL_drawn) B.pre
  have hown : s.vm.findClass RL = some m.cls := findClass_of_methodNamed B.named
  have hlocks := B.notSynchronized
  have hS0 : va_S (fun _ => False) s.heap s.heap [] := va_S.rf
  have hl := lv_entry ([.ref b, .int (nI i), .int (nI k)]) (n := 4) (Nat.le_of_ble_eq_true rfl)
  rw [lg_entry_eq]
  generalize (lg_sl ([.ref b, .int (nI i), .int (nI k)]) ++ List.replicate (4 - (lg_sl ([.ref b, .int (nI i), .int (nI k)])).length) Slot.unset).toArray = ls at hl ⊢
  have hl : lv_has ls 4 [(0, .ref b), (1, .int (nI i)), (2, .int (nI k))] := hl
  refine lv_iload_n hx hb dL_drawn_0 rfl (lv_at hl 1 rfl) ?_
  refine lv_aload_n hx hb dL_drawn_1 rfl (lv_at hl 0 rfl) ?_
  refine va_slen (A := fun _ => False) hx hb hX hbl (fun h9 => h9) hS0 dL_drawn_2 ?_
  refine lv_icmp_ge (tgt := 12) hx hb dL_drawn_3 (by decide) (fun c3 => ?_) (fun c3 => ?_)
  · have hiL : ¬ i < L := fun h9 => i32_le_nlt c3 (nI_lt h9 (by omega))
    refine lv_ldc hx hb hown (hts (.constant RL 7 46337) (by decide +kernel)) dL_drawn_12 ?_
    refine lv_iload_n hx hb dL_drawn_14 rfl (lv_at hl 1 rfl) ?_
    refine lv_imul hx hb dL_drawn_15 ?_
    refine lv_sipush (v := 2593) hx hb dL_drawn_16 (by decide) ?_
    refine lv_iadd hx hb dL_drawn_19 ?_
    refine ki_eq (show ((46337 * (nI i)) + 2593) = itsv L xs i from by unfold itsv; rw [if_neg hiL]) ?_
    refine lv_istore_n (lv' := [(3, .int (itsv L xs i)), (0, .ref b), (1, .int (nI i)), (2, .int (nI k))]) hx hb dL_drawn_20 rfl hl (by decide) rfl (fun ls hl => ?_)
    refine lv_iload_n hx hb dL_drawn_21 rfl (lv_at hl 0 rfl) ?_
    refine lv_iconst (v := 1) hx hb dL_drawn_22 (by decide) ?_
    refine lv_iushr (v := ((itsv L xs i).toUInt32 >>> ((1 : Int32).toUInt32 &&& Int32.toUInt32 31)).toInt32) hx hb dL_drawn_23 rfl ?_
    refine lv_iload_n hx hb dL_drawn_24 rfl (lv_at hl 3 rfl) ?_
    refine lv_irem hx hb dL_drawn_25 hk0 ?_
    exact W.iret hx hb hr (fun t ht hW => ⟨_, rfl, rfl, ht⟩) (fun q hq => absurd hq List.not_mem_nil) dL_drawn_26
  · have hiL : i < L := Classical.byContradiction fun h9 => c3 (nI_le (a := L) (b := i) (by omega) (by omega))
    refine lv_aload_n hx hb dL_drawn_6 rfl (lv_at hl 0 rfl) ?_
    refine lv_iload_n hx hb dL_drawn_7 rfl (lv_at hl 1 rfl) ?_
    refine va_sld (A := fun _ => False) hx hb hX hbl (fun h9 => h9) hS0 (vp_in_nI hiL (by omega)) dL_drawn_8 ?_
    rw [nI_clamp (show i < 2 ^ 31 by omega)]
    refine lv_goto (tgt := 20) hx hb dL_drawn_9 (by decide) ?_
    refine ki_eq (show (xs i) = itsv L xs i from by unfold itsv; rw [if_pos hiL]) ?_
    refine lv_istore_n (lv' := [(3, .int (itsv L xs i)), (0, .ref b), (1, .int (nI i)), (2, .int (nI k))]) hx hb dL_drawn_20 rfl hl (by decide) rfl (fun ls hl => ?_)
    refine lv_iload_n hx hb dL_drawn_21 rfl (lv_at hl 0 rfl) ?_
    refine lv_iconst (v := 1) hx hb dL_drawn_22 (by decide) ?_
    refine lv_iushr (v := ((itsv L xs i).toUInt32 >>> ((1 : Int32).toUInt32 &&& Int32.toUInt32 31)).toInt32) hx hb dL_drawn_23 rfl ?_
    refine lv_iload_n hx hb dL_drawn_24 rfl (lv_at hl 3 rfl) ?_
    refine lv_irem hx hb dL_drawn_25 hk0 ?_
    exact W.iret hx hb hr (fun t ht hW => ⟨_, rfl, rfl, ht⟩) (fun q hq => absurd hq List.not_mem_nil) dL_drawn_26

