/-! THE CLAIM OUT OF ONE WALK OF THE LAW'S BODY. Your part is whole_start (and what it stands on); all else here is the same for every law, but numbers. -/
def R_law : String := "VinegarLoftLaw"
def lw_P (b : Addr) (xs : List Int32) (args : Array Value) (s : State) : Prop := args = #[.ref b] ∧ s.IntsAt b xs ∧ xs.length ≤ 1536 ∧ (Jvm.Cond.and given_1 narrow_1).before args s = true
/-- what a walk over the start with the record d0 says of its end, said of the start itself -/
theorem lw_closed {s t : State} {o : Outcome} {d0 : Drawn} {L : List Loc} {k n : Nat} (hd0 : s.drawn.sameBut d0 lw_cs) (hv : ∃ v, o = .returned v) (hW : (s.setDrawn d0).WarmedH t.vm) (hs : (s.setDrawn d0).sameButNew ({ t with vm := s.vm } : State) L k n) : State.butDraws s t lw_cs (fun t1 => Framed s o t1 L k n) := by
  have h2 : t.drawn = d0 := congrArg State.drawn hs.1
  refine ⟨⟨hv, hW, State.sameButNew.setDrawn hs s.drawn⟩, ?_, by decide⟩
  rw [h2]
  exact hd0
def lw_Q (_ : Array Value) (s : State) (o : Outcome) (t : State) : Prop := o = .returned (some (.int 1)) ∧ State.butDraws s t lw_cs (fun t1 => Framed s o t1 [] 658678 7120069)
def lw_Z (below : List Frame) (a : Array Value) (s : State) : State → Prop := fun t => ∃ o, t.status = .running ∧ Ended t below o ∧ lw_Q a s o t
/-- the law's own end, with 1 on the stack, nothing written that was there before, its room as the claim has it; d0: the record of draws at this point (at the entry s.drawn: begin with 'refine W.base ?_' and 'have hd0 := Drawn.sameBut.refl s.drawn lw_cs') -/
theorem lw_ret {p : Program} {l : Launch} {e : Env} {s : State} {m : MethodId} {below : List Frame} {meth : Method} {c : Code} {b : Nat} {d0 : Drawn} (hd0 : s.drawn.sameBut d0 lw_cs) (hx : p.tables.exec = Jvm.exec) (hb : c.code = code) (hr : meth.sig.returnType = ret) (hlocks : meth.locks = false) {pc : Nat} {H : Heap} {ls : Array Slot} (hdg : decode code pc = .ok (.ireturn, 1)) : W p l e room_1 (s.setDrawn d0) m #[Value.ref b] below meth c H [] 658678 7120069 (lw_Z below #[Value.ref b] s) (F0 m pc ls [.int 1]) := by
  intro T hT X
  obtain ⟨fs, hret, hrun, hended, hW, hframe⟩ := X.leave (v := some (.int 1)) (hlocks := hlocks) (fun h => by rw [hr] at h; cases h)
  have hmeth' : T.vm.method? m = some meth := X.method'
  refine ⟨T.setFrames fs, ?_, .returned (some (.int 1)), hrun, hended, rfl, lw_closed hd0 ⟨_, rfl⟩ hW hframe⟩
  jvm_step X.here [X.here.top, hx, hb, hdg, hmeth', hr, ret, narrow_b1]
  (try refine ⟨rfl, ?_⟩); (try refine ⟨rfl, ?_⟩)
  first | (intro acts; rw [hret _ acts rfl rfl rfl]) | rw [hret _ _ rfl rfl rfl]
  exact Steps.refl _
/-- what holds at the law's entry: the machine, the code, the tables' words (any of lw_tbl by 'hts w (by decide +kernel)'), the script of L ints xs at the cell b, what the Statement gives of the start (any of its parts by flat_of_before) -/
def lw_At (p : Program) (s : State) (m : MethodId) (meth : Method) (c : Code) (b L : Nat) (xs : Nat → Int32) : Prop :=
  p.tables.exec = Jvm.exec ∧ c.code = code ∧ meth.sig.returnType = ret ∧ c.maxLocals = 10 ∧ s.vm.findClass R_law = some m.cls ∧ (∀ w ∈ lw_tbl, w.before #[Value.ref b] s = true) ∧ va_X b L xs s s.heap ∧ b < s.heap.size ∧ meth.locks = false ∧ (Jvm.Cond.and given_1 narrow_1).before #[Value.ref b] s = true
theorem xW_in : ∀ w ∈ xW, w ∈ lw_tbl := by decide +kernel
theorem cW_in : ∀ w ∈ cW, w ∈ lw_tbl := by decide +kernel
theorem xT_in : ∀ q ∈ xT, Cond.stringRef RX2 q.1 q.2 ∈ lw_tbl := by decide +kernel
theorem xS_in : ∀ q ∈ xT, Cond.exactly (.string RX2 q.1) "java/lang/String" ∈ flatC (Jvm.Cond.and given_1 narrow_1) := by decide +kernel
/-- what a throw needs, at the start -/
theorem start_XP {s : State} {b : Nat} (hts : ∀ w ∈ lw_tbl, w.before #[Value.ref b] s = true) (hgv : (Jvm.Cond.and given_1 narrow_1).before #[Value.ref b] s = true) : XP (Ah s) s s.heap := by
  have hs := flat_of_before _ hgv
  have hAh : ∀ a : Nat, a < s.heap.size → ¬ Ah s a := fun a h => Nat.not_le.mpr h
  refine ⟨vx_Zqof (hts (.laysStatic Bundle.tN "UNASSIGNED_STACK" Bundle.steD) (by decide +kernel)) (hts (.initialized Bundle.tN) (by decide +kernel)) (hs (.isRef (.static Bundle.tN "UNASSIGNED_STACK" Bundle.steD)) (by decide +kernel)) hAh,
    vx_Zqof (hts (.laysStatic Bundle.tN "SUPPRESSED_SENTINEL" Bundle.listD) (by decide +kernel)) (hts (.initialized Bundle.tN) (by decide +kernel)) (hs (.isRef (.static Bundle.tN "SUPPRESSED_SENTINEL" Bundle.listD)) (by decide +kernel)) hAh,
    fun w hw => ?_, fun q hq => ?_⟩
  · have h1 := List.all_eq_true.mp xW_face w hw
    simp only [Bool.and_eq_true] at h1
    exact va_tabs h1.1 rfl (hts w (xW_in w hw))
  · obtain ⟨a, c, cell, k, ha, -⟩ := Cond.exactly_spec (hs _ (xS_in q hq))
    exact ⟨a, vk_R.of (hts _ (xT_in q hq)) ha⟩
theorem start_XH {s : State} {b : Nat} (hts : ∀ w ∈ lw_tbl, w.before #[Value.ref b] s = true) (hgv : (Jvm.Cond.and given_1 narrow_1).before #[Value.ref b] s = true) : XH s := by
  have hs := flat_of_before _ hgv
  refine ⟨fun w hw => ?_, va_Nc.of (hs (.not (.castable xISE xIAE)) (by decide +kernel))⟩
  have h1 := List.all_eq_true.mp cW_face w hw
  simp only [Bool.and_eq_true] at h1
  exact va_tabs h1.1 rfl (hts w (cW_in w hw))
def AD.of (x r t d la lt y aw az ah ak ol od : Nat) (bs bt : Nat → Nat) (cA cI cL cD : ClassId) : AD := (fun k => match k with
  | 0 => x | 1 => r | 2 => t | 3 => d | 4 => la | 5 => lt | 6 => y | 7 => aw | 8 => az | 9 => ah | 10 => ak | 11 => ol | _ => od, bs, bt, fun k => match k with
  | 0 => cA | 1 => cI | 2 => cL | _ => cD)
theorem IV_0 : IV 7 0 18 0 (fun _ => 0) (fun _ => 0) (fun _ => 0) :=
  ⟨by decide, ⟨fun _ _ => rfl, fun i hi => absurd hi (Nat.not_lt_zero i)⟩, fun i hi => absurd hi (Nat.not_lt_zero i), ⟨18, by decide, rfl⟩, QB_nn (by decide +kernel), fun _ _ => rfl, fun _ _ => rfl⟩
theorem ZU_0 : ZU 0 (0, 18, -1, 0, fun _ => 0, fun _ => 0, fun _ => 0) := ⟨by decide, fun _ _ => rfl, fun _ _ => rfl, fun _ _ => rfl⟩
theorem two_front {w : va_W} {p q : Nat × va_E} : ((w ++ [p]) ++ [q]).Perm ([p, q] ++ w) := by
  rw [List.append_assoc]
  exact List.perm_append_comm
-- ===== YOUR PART BEGINS =====
set_option maxHeartbeats 4000000 in
set_option maxRecDepth 100000 in
/-- YOUR PART: from the entry, for every script of at most 1536 ints, the law comes to its end with true -/
theorem whole_start {p : Program} {e : Env} {s : State} {m : MethodId} {below : List Frame} {meth : Method} {c : Code} (l : Launch) (hflags : l.flags = flags0) {b L : Nat} {xs : Nat → Int32} (hL : L ≤ 1536) (C0 : lw_At p s m meth c b L xs) : W p l e room_1 s m #[Value.ref b] below meth c s.heap [] 0 0 (lw_Z below #[Value.ref b] s) (entryFrame m ([Value.ref b] : List Value).toArray 10) := by
  obtain ⟨hx, hb, hr, hml, hown, hts, hXs, hbl, hlocks, hgv⟩ := id C0
  have hts1 : ∀ w ∈ wsL_law, w.before #[Value.ref b] s = true := fun w h => hts w (wsL_law_in w h)
  have hA : ∀ q : Nat, s.heap.size ≤ q → Ah s q := fun _ h => h
  have hst : l.stackTraces = false := by unfold Launch.stackTraces; rw [hflags]; decide
  obtain ⟨c0, iS0, hKn0⟩ := u_known (C := RX0) (T := TX0) (N := 6) (n := 6) hts inX0 (hts (.instantiable RX0 6) (by decide +kernel))
  obtain ⟨c1, iS1, hKn1⟩ := u_known (C := RX1) (T := TX1) (N := 5) (n := 5) hts inX1 (hts (.instantiable RX1 5) (by decide +kernel))
  obtain ⟨c2, iS2, hKn2⟩ := u_known (C := RX2) (T := TX2) (N := 4) (n := 4) hts inX2 (hts (.instantiable RX2 4) (by decide +kernel))
  obtain ⟨c3, iS3, hKn3⟩ := u_known (C := RX3) (T := TX3) (N := 13) (n := 13) hts inX3 (hts (.instantiable RX3 13) (by decide +kernel))
  obtain ⟨D, hKc⟩ : ∃ D : va_G, ∀ (k : Nat) (q : vw_C), vwCl[k]? = some q → u_Kn s q.1 q.2.1 q.2.2 (D.1 k) (D.2 k) := by
    refine ⟨(fun k => match k with | 0 => c0 | 1 => c1 | 2 => c2 | _ => c3, fun k => match k with | 0 => iS0 | 1 => iS1 | 2 => iS2 | _ => iS3), ?_⟩
    intro k q hq
    match k, hq with
    | 0, hq => cases hq; exact hKn0
    | 1, hq => cases hq; exact hKn1
    | 2, hq => cases hq; exact hKn2
    | 3, hq => cases hq; exact hKn3
    | k + 4, hq => simp [vwCl] at hq
  have hS : va_S (Ah s) s.heap s.heap [] := va_S.rf
  have hK0 : va_K D vwCl [] s := ⟨hKc, fun k q h => by simp at h⟩
  have hP : va_P D vwCl [] s.heap := fun k q h => by simp at h
  have hD : va_D (Ah s) [] := ⟨fun i j p q h => by simp at h, fun k q h => by simp at h⟩
  have hO : va_AO "VinegarLoft$Barrel" s := va_AO.of (hts (.arrayOver (.object "VinegarLoft$Barrel")) (by decide +kernel))
  have hNw : va_Nw (.methodLinkNest RX1 17 yX0_init "VinegarLoft") s := va_Nw.of rfl (hts (.methodLinkNest RX1 17 yX0_init "VinegarLoft") (by decide +kernel))
  have hl := lv_entry ([.ref b]) (n := 10) (Nat.le_of_ble_eq_true rfl)
  rw [lg_entry_eq]
  generalize (lg_sl ([.ref b]) ++ List.replicate (10 - (lg_sl ([.ref b])).length) Slot.unset).toArray = ls at hl ⊢
  have hl : lv_has ls 10 [(0, .ref b)] := hl
  -- the loft
  refine va_new (ci := 2) (fs := [.null, .null, .null, .int 0]) (C := RX2) (T := TX2) (N := 4) hx hb hts inX2 tyX2 tyX2_ok hown (hts (.classLink RL 8 RX2) (by decide +kernel)) (hts (.instantiable RX2 4) (by decide +kernel)) (hts (.initialized RX2) (by decide +kernel)) hK0 hP hD hS hA rfl (fun j hj => by rcases (show j = 0 ∨ j = 1 ∨ j = 2 ∨ j = 3 by omega) with rfl | rfl | rfl | rfl <;> rfl) (Nat.le_of_ble_eq_true rfl) (Nat.le_of_ble_eq_true rfl) dL_law_0 (fun x H hP hD hS => ?_)
  have hP : va_P D vwCl ([] ++ ([(x, .inr (2, [.null, .null, .null, .int 0]))] ++ [])) H := hP
  have hD : va_D (Ah s) ([] ++ ([(x, .inr (2, [.null, .null, .null, .int 0]))] ++ [])) := hD
  refine lv_dup hx hb dL_law_3 rfl ?_
  refine kI_v (S := LMK) (w2' := loftU x) (tk := tysU) (w1 := []) (w2 := [(x, .inr (2, [.null, .null, .null, .int 0]))]) (w3 := []) (va_runI (As := []) (rest := [.ref x]) ⟨hx, hb, hml, hown, hts1⟩ (metX2_init l D H.size x) (cwI 0 hts1 gL_law_X2_init rfl rfl rfl (hts (.initialized RX2) (by decide +kernel)) (hts (.methodLink RL 52 yX2_init) (by decide +kernel)) (hts (.instanceMethod yX2_init) (by decide +kernel)) rfl (by decide +kernel) ⟨(Nat.le_of_ble_eq_true rfl), (Nat.le_of_ble_eq_true rfl)⟩) (piS (vj_mP hP) hK0 (vj_mD hD) hO hNw) rfl rfl hl.1 rfl (lv_room (Nat.le_of_ble_eq_true rfl)) dL_law_4 ⟨(Nat.le_of_ble_eq_true rfl), (Nat.le_of_ble_eq_true rfl)⟩) hP hD hS hA (fun u1 H locs hK1 hP hD hS => ?_)
  refine lv_astore_n (lv' := [(1, .ref x), (0, .ref b)]) hx hb dL_law_7 rfl hl (by decide) rfl (fun ls hl => ?_)
  -- the reference
  refine va_new (ci := 3) (fs := [.null, .null, .null, .null, .int 0, .int 0, .int 0, .double 0, .int 0, .int 0, .int 0, .int 0, .int 0]) (C := RX3) (T := TX3) (N := 13) hx hb hts inX3 tyX3 tyX3_ok hown (hts (.classLink RL 53 RX3) (by decide +kernel)) (hts (.instantiable RX3 13) (by decide +kernel)) (hts (.initialized RX3) (by decide +kernel)) hK0 hP hD hS hA rfl (fun j hj => by rcases (show j = 0 ∨ j = 1 ∨ j = 2 ∨ j = 3 ∨ j = 4 ∨ j = 5 ∨ j = 6 ∨ j = 7 ∨ j = 8 ∨ j = 9 ∨ j = 10 ∨ j = 11 ∨ j = 12 by omega) with rfl | rfl | rfl | rfl | rfl | rfl | rfl | rfl | rfl | rfl | rfl | rfl | rfl <;> rfl) (Nat.le_of_ble_eq_true rfl) (Nat.le_of_ble_eq_true rfl) dL_law_8 (fun y H hP hD hS => ?_)
  have hP : va_P D vwCl (loftU x u1 ++ ([(y, .inr (3, [.null, .null, .null, .null, .int 0, .int 0, .int 0, .double 0, .int 0, .int 0, .int 0, .int 0, .int 0]))] ++ [])) H := hP
  have hD : va_D (Ah s) (loftU x u1 ++ ([(y, .inr (3, [.null, .null, .null, .null, .int 0, .int 0, .int 0, .double 0, .int 0, .int 0, .int 0, .int 0, .int 0]))] ++ [])) := hD
  refine lv_dup hx hb dL_law_11 rfl ?_
  refine kI_v (S := YMK) (w2' := modU y) (tk := fun u => [(u.2.2.2.2.1, .int), (u.2.2.2.2.2, .double)]) (w1 := loftU x u1) (w3 := []) (va_runI (As := []) (rest := [.ref y]) ⟨hx, hb, hml, hown, hts1⟩ (metX3_init l D H.size y) (cwI 0 hts1 gL_law_X3_init rfl rfl rfl (hts (.initialized RX3) (by decide +kernel)) (hts (.methodLink RL 55 yX3_init) (by decide +kernel)) (hts (.instanceMethod yX3_init) (by decide +kernel)) rfl (by decide +kernel) ⟨(Nat.le_of_ble_eq_true rfl), (Nat.le_of_ble_eq_true rfl)⟩) (pmS (vj_mP hP) hK0 (vj_mD hD)) rfl rfl hl.1 rfl (lv_room (Nat.le_of_ble_eq_true rfl)) dL_law_12 ⟨(Nat.le_of_ble_eq_true rfl), (Nat.le_of_ble_eq_true rfl)⟩) hP hD hS hA (fun u2 H locs hK2 hP hD hS => ?_)
  rw [List.append_nil] at hP hD
  refine lv_astore_n (lv' := [(2, .ref y), (1, .ref x), (0, .ref b)]) hx hb dL_law_15 rfl hl (by decide) rfl (fun ls hl => ?_)
  -- the answers' arrays
  refine lv_iconst (v := 1) hx hb dL_law_16 (by decide) ?_
  refine va_newa (atype := .long) (ty := .long) (n := 1) (N' := 1) (a0 := (1, .inr (.inl (fun _ => 0)))) hx hb (hts (.arrayClass .long) (by decide +kernel)) rfl hK0 hP hD hS hA (fun _ => rfl) (by decide) (by decide) (by decide) (Nat.le_of_ble_eq_true rfl) (Nat.le_of_ble_eq_true rfl) dL_law_17 (fun ol cL H hK3 hP hD hS => ?_)
  refine lv_astore_n (lv' := [(3, .ref ol), (2, .ref y), (1, .ref x), (0, .ref b)]) hx hb dL_law_19 rfl hl (by decide) rfl (fun ls hl => ?_)
  refine lv_iconst (v := 1) hx hb dL_law_20 (by decide) ?_
  refine va_newa (atype := .double) (ty := .double) (n := 1) (N' := 1) (a0 := (1, .inr (.inr (.inr (.inl (fun _ => 0)))))) hx hb (hts (.arrayClass .double) (by decide +kernel)) rfl hK0 hP hD hS hA (fun _ => rfl) (by decide) (by decide) (by decide) (Nat.le_of_ble_eq_true rfl) (Nat.le_of_ble_eq_true rfl) dL_law_21 (fun od cD H hK4 hP hD hS => ?_)
  refine lv_astore (lv' := [(4, .ref od), (3, .ref ol), (2, .ref y), (1, .ref x), (0, .ref b)]) hx hb dL_law_23 hl (by decide) rfl (fun ls hl => ?_)
  refine lv_iconst (v := 0) hx hb dL_law_25 (by decide) ?_
  refine lv_istore (lv' := [(5, .int 0), (4, .ref od), (3, .ref ol), (2, .ref y), (1, .ref x), (0, .ref b)]) hx hb dL_law_26 hl (by decide) rfl (fun ls hl => ?_)
  have hP := vP_perm two_front hP
  have hD := vD_perm two_front hD
  obtain ⟨r, t, d, la, lt, bs, bt, cA, cI⟩ := u1
  obtain ⟨aw, az, ah, ak, cI2, cD2⟩ := u2
  have hK3 : va_K D vwCl [(cL, .long)] s := hK3
  have hK4 : va_K D vwCl [(cD, .double)] s := hK4
  have hK1 : va_K D vwCl [(cA, .object "VinegarLoft$Barrel"), (cI, .int)] s := hK1
  have hK2 : va_K D vwCl [(cI2, .int), (cD2, .double)] s := hK2
  obtain rfl := va_K_pA (hK1.sub (tys' := [(cI, .int)]) [1] rfl) (hK2.sub (tys' := [(cI2, .int)]) [0] rfl)
  obtain rfl := va_K_pD hK4 (hK2.sub (tys' := [(cD2, .double)]) [1] rfl)
  have hKa : va_K D vwCl (TYa (AD.of x r t d la lt y aw az ah ak ol od bs bt cA cI cL cD)) s := (hK1.app hK3).app hK4
  have hP : va_P D vwCl (WLa (AD.of x r t d la lt y aw az ah ak ol od bs bt cA cI cL cD) 0 18 (-1) 0 0 (fun _ => 0) (fun _ => 0) (fun _ => 0) (fun _ => 0) (0, 18, -1, 0, fun _ => 0, fun _ => 0, fun _ => 0) 0 (fun _ => 0) (fun _ => 0) (fun _ => 0)) H := hP
  have hD : va_D (Ah s) (WLa (AD.of x r t d la lt y aw az ah ak ol od bs bt cA cI cL cD) 0 18 (-1) 0 0 (fun _ => 0) (fun _ => 0) (fun _ => 0) (fun _ => 0) (0, 18, -1, 0, fun _ => 0, fun _ => 0, fun _ => 0) 0 (fun _ => 0) (fun _ => 0) (fun _ => 0)) := hD
  refine law_loop (xs := xs) (L := L) (a := AD.of x r t d la lt y aw az ah ak ol od bs bt cA cI cL cD) ⟨hx, hb, hml, hown, hts1, hKa, start_XP hts hgv, start_XH hts hgv, hst, hXs, hbl, hL⟩ (fun H locs ls cells slots hS hc hs => ?_) L 0 0 18 (-1) 0 0 (fun _ => 0) (fun _ => 0) (fun _ => 0) (fun _ => 0) (0, 18, -1, 0, fun _ => 0, fun _ => 0, fun _ => 0) 0 (fun _ => 0) (fun _ => 0) (fun _ => 0) H _ ls _ _ (by omega) (by decide) (by decide) (by decide) IV_0 ZU_0 hP hD hS hl
  refine va_forget (fun q hq => hS.2.2 q hq) ?_
  refine W.widen (k := 658678) (n := 7120069) hc hs ?_
  refine lv_iconst (v := 1) hx hb dL_law_1130 (by decide) ?_
  exact lw_ret (s := s) (d0 := s.drawn) (Drawn.sameBut.refl s.drawn lw_cs) hx hb hr hlocks dL_law_1131
