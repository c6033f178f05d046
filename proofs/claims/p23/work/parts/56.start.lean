/-! THE CLAIM OUT OF ONE WALK OF THE LAW'S BODY. Your part is whole_start (and what it stands on); all else here is the same for every law, but numbers. -/
def R_law : String := "VinegarLoftLaw"
def lw_P (b : Addr) (xs : List Int32) (args : Array Value) (s : State) : Prop := args = #[.ref b] ∧ s.IntsAt b xs ∧ xs.length ≤ 260 ∧ (Jvm.Cond.and given_1 narrow_1).before args s = true
/-- what a walk over the start with the record d0 says of its end, said of the start itself -/
theorem lw_closed {s t : State} {o : Outcome} {d0 : Drawn} {L : List Loc} {k n : Nat} (hd0 : s.drawn.sameBut d0 lw_cs) (hv : ∃ v, o = .returned v) (hW : (s.setDrawn d0).WarmedH t.vm) (hs : (s.setDrawn d0).sameButNew ({ t with vm := s.vm } : State) L k n) : State.butDraws s t lw_cs (fun t1 => Framed s o t1 L k n) := by
  have h2 : t.drawn = d0 := congrArg State.drawn hs.1
  refine ⟨⟨hv, hW, State.sameButNew.setDrawn hs s.drawn⟩, ?_, by decide⟩
  rw [h2]
  exact hd0
def lw_Q (_ : Array Value) (s : State) (o : Outcome) (t : State) : Prop := o = .returned (some (.int 1)) ∧ State.butDraws s t lw_cs (fun t1 => Framed s o t1 [] 600172 7300668)
def lw_Z (below : List Frame) (a : Array Value) (s : State) : State → Prop := fun t => ∃ o, t.status = .running ∧ Ended t below o ∧ lw_Q a s o t
/-- the law's own end, with 1 on the stack, nothing written that was there before, its room as the claim has it; d0: the record of draws at this point (at the entry s.drawn: begin with 'refine W.base ?_' and 'have hd0 := Drawn.sameBut.refl s.drawn lw_cs') -/
theorem lw_ret {p : Program} {l : Launch} {e : Env} {s : State} {m : MethodId} {below : List Frame} {meth : Method} {c : Code} {b : Nat} {d0 : Drawn} (hd0 : s.drawn.sameBut d0 lw_cs) (hx : p.tables.exec = Jvm.exec) (hb : c.code = code) (hr : meth.sig.returnType = ret) (hlocks : meth.locks = false) {pc : Nat} {H : Heap} {ls : Array Slot} (hdg : decode code pc = .ok (.ireturn, 1)) : W p l e room_1 (s.setDrawn d0) m #[Value.ref b] below meth c H [] 600172 7300668 (lw_Z below #[Value.ref b] s) (F0 m pc ls [.int 1]) := by
  intro T hT X
  obtain ⟨fs, hret, hrun, hended, hW, hframe⟩ := X.leave (v := some (.int 1)) (hlocks := hlocks) (fun h => by rw [hr] at h; cases h)
  have hmeth' : T.vm.method? m = some meth := X.method'
  refine ⟨T.setFrames fs, ?_, .returned (some (.int 1)), hrun, hended, rfl, lw_closed hd0 ⟨_, rfl⟩ hW hframe⟩
  jvm_step X.here [X.here.top, hx, hb, hdg, hmeth', hr, ret, narrow_b1]
  (try refine ⟨rfl, ?_⟩); (try refine ⟨rfl, ?_⟩)
  first | (intro acts; rw [hret _ acts rfl rfl rfl]) | rw [hret _ _ rfl rfl rfl]
  exact Steps.refl _
/-- what holds at the law's entry: the machine, the code, the tables' words (any of lw_tbl by 'hts w (by decide +kernel)'), the script of L ints xs at the cell b, what the Statement gives of the start (any of its parts by flat_of_before) -/
def lw_At (p : Program) (s : State) (m : MethodId) (meth : Method) (c : Code) (b L : Nat) (xs : Nat → Int32) : Prop :=
  p.tables.exec = Jvm.exec ∧ c.code = code ∧ meth.sig.returnType = ret ∧ c.maxLocals = 9 ∧ s.vm.findClass R_law = some m.cls ∧ (∀ w ∈ lw_tbl, w.before #[Value.ref b] s = true) ∧ va_X b L xs s s.heap ∧ b < s.heap.size ∧ meth.locks = false ∧ (Jvm.Cond.and given_1 narrow_1).before #[Value.ref b] s = true
theorem xW_in : ∀ w ∈ xW, w ∈ lw_tbl := by decide +kernel
theorem xT_in : ∀ q ∈ xT, Cond.stringRef RX2 q.1 q.2 ∈ lw_tbl := by decide +kernel
theorem xS_in : ∀ q ∈ xT, Cond.exactly (.string RX2 q.1) "java/lang/String" ∈ flatC (Jvm.Cond.and given_1 narrow_1) := by decide +kernel
/-- what a throw needs, at the start -/
theorem start_XP {s : State} {b : Nat} (hts : ∀ w ∈ lw_tbl, w.before #[Value.ref b] s = true) (hgv : (Jvm.Cond.and given_1 narrow_1).before #[Value.ref b] s = true) : XP (Ah s) s s.heap := by
  have hs := flat_of_before _ hgv
  have hAh : ∀ a : Nat, a < s.heap.size → ¬ Ah s a := fun a h => Nat.not_le.mpr h
  refine ⟨vx_Zqof (hts (.laysStatic Bundle.tN "UNASSIGNED_STACK" Bundle.steD) (by decide +kernel)) (hts (.initialized Bundle.tN) (by decide +kernel)) (hs (.isRef (.static Bundle.tN "UNASSIGNED_STACK" Bundle.steD)) (by decide +kernel)) hAh,
    vx_Zqof (hts (.laysStatic Bundle.tN "SUPPRESSED_SENTINEL" Bundle.listD) (by decide +kernel)) (hts (.initialized Bundle.tN) (by decide +kernel)) (hs (.isRef (.static Bundle.tN "SUPPRESSED_SENTINEL" Bundle.listD)) (by decide +kernel)) hAh,
    fun w hw => ?_, fun q hq => ?_⟩
  · have h1 := List.all_eq_true.mp xW_face w hw
    simp only [Bool.and_eq_true] at h1
    exact va_tabs h1.1 rfl (hts w (xW_in w hw))
  · obtain ⟨a, c, cell, k, ha, -⟩ := Cond.exactly_spec (hs _ (xS_in q hq))
    exact ⟨a, vk_R.of (hts _ (xT_in q hq)) ha⟩
theorem ZU_0 : ZU 0 (0, 18, -1, 0, fun _ => 0, fun _ => 0, fun _ => 0) := ⟨by decide, fun _ _ => rfl, fun _ _ => rfl, fun _ _ => rfl⟩
theorem ZU_n (n : Nat) : ZU n (0, 18, -1, 0, fun _ => 0, fun _ => 0, fun _ => 0) := ⟨by decide, fun _ _ => rfl, fun _ _ => rfl, fun _ _ => rfl⟩
set_option maxHeartbeats 4000000 in
set_option maxRecDepth 100000 in
/-- from the entry to the end, over an invariant -/
theorem law_start {p : Program} {e : Env} {s : State} {m : MethodId} {below : List Frame} {meth : Method} {c : Code} (l : Launch) (hflags : l.flags = flags0) {b L : Nat} {xs : Nat → Int32} (hL : L ≤ 260) (C0 : lw_At p s m meth c b L xs) (I : LIT) (hLS : LSt I)
    (h0 : ∀ (n F z : Nat) (wd zs : Nat → Int32), 2 ≤ n → n ≤ 8 → 60 ≤ F → F ≤ 100 → SP n F z wd zs → I 0 n F 0 18 (-1) 0 wd zs (fun _ => 0) (fun _ => 0)) : W p l e room_1 s m #[Value.ref b] below meth c s.heap [] 0 0 (lw_Z below #[Value.ref b] s) (entryFrame m ([Value.ref b] : List Value).toArray 9) := by
  obtain ⟨hx, hb, hr, hml, hown, hts0, hXs, hbl, hlocks, hgv⟩ := id C0
  have hts : ∀ w ∈ wsL_law, w.before #[Value.ref b] s = true := fun w h => hts0 w (wsL_law_in w h)
  have hA : ∀ q : Nat, s.heap.size ≤ q → Ah s q := fun _ h => h
  have hbA : ¬ Ah s b := Nat.not_le.mpr hbl
  have hst : l.stackTraces = false := by unfold Launch.stackTraces; rw [hflags]; decide
  obtain ⟨c0, iS0, hKn0⟩ := u_known (C := RX0) (T := TX0) (N := 6) (n := 6) hts0 inX0 (hts0 (.instantiable RX0 6) (by decide +kernel))
  obtain ⟨c1, iS1, hKn1⟩ := u_known (C := RX1) (T := TX1) (N := 5) (n := 5) hts0 inX1 (hts0 (.instantiable RX1 5) (by decide +kernel))
  obtain ⟨c2, iS2, hKn2⟩ := u_known (C := RX2) (T := TX2) (N := 4) (n := 4) hts0 inX2 (hts0 (.instantiable RX2 4) (by decide +kernel))
  obtain ⟨D, hKc⟩ : ∃ D : va_G, ∀ (k : Nat) (q : vw_C), vwCl[k]? = some q → u_Kn s q.1 q.2.1 q.2.2 (D.1 k) (D.2 k) := by
    refine ⟨(fun k => match k with | 0 => c0 | 1 => c1 | _ => c2, fun k => match k with | 0 => iS0 | 1 => iS1 | _ => iS2), ?_⟩
    intro k q hq
    match k, hq with
    | 0, hq => cases hq; exact hKn0
    | 1, hq => cases hq; exact hKn1
    | 2, hq => cases hq; exact hKn2
    | k + 3, hq => simp [vwCl] at hq
  have hS : va_S (Ah s) s.heap s.heap [] := va_S.rf
  have hK0 : va_K D vwCl [] s := ⟨hKc, fun k q h => by simp at h⟩
  have hP : va_P D vwCl [] s.heap := fun k q h => by simp at h
  have hD : va_D (Ah s) [] := ⟨fun i j p q h => by simp at h, fun k q h => by simp at h⟩
  have hO : va_AO "VinegarLoft$Barrel" s := va_AO.of (hts0 (.arrayOver (.object "VinegarLoft$Barrel")) (by decide +kernel))
  have hNw : va_Nw (.methodLinkNest RX1 17 yX0_init "VinegarLoft") s := va_Nw.of rfl (hts0 (.methodLinkNest RX1 17 yX0_init "VinegarLoft") (by decide +kernel))
  have hl := lv_entry ([.ref b]) (n := 9) (Nat.le_of_ble_eq_true rfl)
  rw [lg_entry_eq]
  generalize (lg_sl ([.ref b]) ++ List.replicate (9 - (lg_sl ([.ref b])).length) Slot.unset).toArray = ls at hl ⊢
  have hl : lv_has ls 9 [(0, .ref b)] := hl
  refine va_new (ci := 2) (fs := [.null, .null, .null, .int 0]) (C := RX2) (T := TX2) (N := 4) hx hb hts0 inX2 tyX2 tyX2_ok hown (hts0 (.classLink RL 11 RX2) (by decide +kernel)) (hts0 (.instantiable RX2 4) (by decide +kernel)) (hts0 (.initialized RX2) (by decide +kernel)) hK0 hP hD hS hA rfl (fun j hj => by rcases (show j = 0 ∨ j = 1 ∨ j = 2 ∨ j = 3 by omega) with rfl | rfl | rfl | rfl <;> rfl) (Nat.le_of_ble_eq_true rfl) (Nat.le_of_ble_eq_true rfl) dL_law_0 (fun x H hP hD hS => ?_)
  have hP : va_P D vwCl ([] ++ ([(x, .inr (2, [.null, .null, .null, .int 0]))] ++ [])) H := hP
  have hD : va_D (Ah s) ([] ++ ([(x, .inr (2, [.null, .null, .null, .int 0]))] ++ [])) := hD
  refine lv_dup hx hb dL_law_3 rfl ?_
  refine kI_v (S := LMK) (w2' := loftU x) (tk := tysU) (w1 := []) (w2 := [(x, .inr (2, [.null, .null, .null, .int 0]))]) (w3 := []) (va_runI (As := []) (rest := [.ref x]) ⟨hx, hb, hml, hown, hts⟩ (metX2_init l D H.size x) (cwI 0 hts gL_law_X2_init rfl rfl rfl (hts0 (.initialized RX2) (by decide +kernel)) (hts0 (.methodLink RL 95 yX2_init) (by decide +kernel)) (hts0 (.instanceMethod yX2_init) (by decide +kernel)) rfl (by decide +kernel) ⟨(Nat.le_of_ble_eq_true rfl), (Nat.le_of_ble_eq_true rfl)⟩) (piS (vj_mP hP) hK0 (vj_mD hD) hO hNw) rfl rfl hl.1 rfl (lv_room (Nat.le_of_ble_eq_true rfl)) dL_law_4 ⟨(Nat.le_of_ble_eq_true rfl), (Nat.le_of_ble_eq_true rfl)⟩) hP hD hS hA (fun u1 H locs hK1 hP hD hS => ?_)
  rw [List.nil_append, List.append_nil] at hP hD
  obtain ⟨r, t, d, la, lt, bs, bt, cA, cI⟩ := u1
  have hK : va_K D vwCl [(cA, .object "VinegarLoft$Barrel"), (cI, .int)] s := hK1
  have hP : va_P D vwCl ([(x, EX r t d 0)] ++ (rowW r la bs cA (nI 0) 18 (-1) 0 (fun _ => 0) (fun _ => 0) (fun _ => 0) ++ (rowW t lt bt cA (nI 0) 18 (-1) 0 (fun _ => 0) (fun _ => 0) (fun _ => 0) ++ [(d, ED cI (fun _ => 0))]))) H := hP
  have hD : va_D (Ah s) ([(x, EX r t d 0)] ++ (rowW r la bs cA (nI 0) 18 (-1) 0 (fun _ => 0) (fun _ => 0) (fun _ => 0) ++ (rowW t lt bt cA (nI 0) 18 (-1) 0 (fun _ => 0) (fun _ => 0) (fun _ => 0) ++ [(d, ED cI (fun _ => 0))]))) := hD
  have hX : XP (Ah s) s s.heap := start_XP hts0 hgv
  refine W.widen (k := 50) (n := 200) (Nat.le_of_ble_eq_true rfl) (Nat.le_of_ble_eq_true rfl) ?_
  generalize hcl : (50 : Nat) = cells
  generalize hsl : (200 : Nat) = slots
  refine lv_astore_n (lv' := [(1, .ref x), (0, .ref b)]) hx hb dL_law_7 rfl hl (by decide) rfl (fun ls hl => ?_)
  refine lv_iconst (v := 2) hx hb dL_law_8 (by decide) ?_
  refine lv_aload_n hx hb dL_law_9 rfl (lv_at hl 1 rfl) ?_
  refine lv_iconst (v := 0) hx hb dL_law_10 (by decide) ?_
  refine lv_bipush (v := 7) hx hb dL_law_11 (by decide) ?_
  refine kr_i (W.runS (As := [.ref b, .int (nI 0), .int (nI 7)]) (rest := [.int 2]) ⟨hx, hb, hml, hown, hts⟩ (metL_drawn l b L xs hL 0 7 (by decide) (by decide)) (va_cwS 3 hts gL_law_L_drawn rfl rfl rfl (by decide +kernel) ⟨Nat.le_of_ble_eq_true rfl, Nat.le_of_ble_eq_true rfl⟩) (pxS (hXs.kept (hS.2.1 b hbl hbA)) (Nat.lt_of_lt_of_le hbl hS.1)) rfl rfl hl.1 rfl (lv_room (Nat.le_of_ble_eq_true rfl)) dL_law_13 ⟨rmc (by omega), rms (by omega)⟩) ?_
  obtain ⟨bn, hbn, ebn⟩ := drnv_lt L xs 0 7 (by decide) (by decide)
  refine ki_eq ebn ?_
  refine lv_iadd hx hb dL_law_16 ?_
  refine ki_eq (show (2 + (nI bn)) = nI (2 + bn) from nI_add 2 bn) ?_
  refine lv_istore_n (lv' := [(2, .int (nI (2 + bn))), (1, .ref x), (0, .ref b)]) hx hb dL_law_17 rfl hl (by decide) rfl (fun ls hl => ?_)
  refine lv_bipush (v := 60) hx hb dL_law_18 (by decide) ?_
  refine lv_aload_n hx hb dL_law_20 rfl (lv_at hl 2 rfl) ?_
  refine lv_iconst (v := 1) hx hb dL_law_21 (by decide) ?_
  refine lv_bipush (v := 41) hx hb dL_law_22 (by decide) ?_
  refine kr_i (W.runS (As := [.ref b, .int (nI 1), .int (nI 41)]) (rest := [.int 60]) ⟨hx, hb, hml, hown, hts⟩ (metL_drawn l b L xs hL 1 41 (by decide) (by decide)) (va_cwS 3 hts gL_law_L_drawn rfl rfl rfl (by decide +kernel) ⟨Nat.le_of_ble_eq_true rfl, Nat.le_of_ble_eq_true rfl⟩) (pxS (hXs.kept (hS.2.1 b hbl hbA)) (Nat.lt_of_lt_of_le hbl hS.1)) rfl rfl hl.1 rfl (lv_room (Nat.le_of_ble_eq_true rfl)) dL_law_24 ⟨rmc (by omega), rms (by omega)⟩) ?_
  obtain ⟨fn, hfn, efn⟩ := drnv_lt L xs 1 41 (by decide) (by decide)
  refine ki_eq efn ?_
  refine lv_iadd hx hb dL_law_27 ?_
  refine ki_eq (show (60 + (nI fn)) = nI (60 + fn) from nI_add 60 fn) ?_
  refine lv_istore_n (lv' := [(3, .int (nI (60 + fn))), (2, .int (nI (2 + bn))), (1, .ref x), (0, .ref b)]) hx hb dL_law_28 rfl hl (by decide) rfl (fun ls hl => ?_)
  refine lv_iload_n hx hb dL_law_29 rfl (lv_at hl 0 rfl) ?_
  refine lv_istore (lv' := [(4, .int (nI (60 + fn))), (3, .int (nI (60 + fn))), (2, .int (nI (2 + bn))), (1, .ref x), (0, .ref b)]) hx hb dL_law_30 hl (by decide) rfl (fun ls hl => ?_)
  refine lv_iconst (v := 1) hx hb dL_law_32 (by decide) ?_
  refine lv_istore (lv' := [(5, .int 1), (4, .int (nI (60 + fn))), (3, .int (nI (60 + fn))), (2, .int (nI (2 + bn))), (1, .ref x), (0, .ref b)]) hx hb dL_law_33 hl (by decide) rfl (fun ls hl => ?_)
  refine lv_iconst (v := 0) hx hb dL_law_35 (by decide) ?_
  refine lv_istore (lv' := [(6, .int 0), (5, .int 1), (4, .int (nI (60 + fn))), (3, .int (nI (60 + fn))), (2, .int (nI (2 + bn))), (1, .ref x), (0, .ref b)]) hx hb dL_law_36 hl (by decide) rfl (fun ls hl => ?_)
  have C : LC p l s m c D b L xs cA cI := ⟨hx, hb, hml, hown, hts, hK, hX, hst, hXs, hbl, hL⟩
  refine law_adds (r := r) (t := t) (d := d) (la := la) (bs := bs) (lt := lt) (bt := bt) (x := x) C (2 + bn) (by omega) (60 + fn) (0, 18, -1, 0, fun _ => 0, fun _ => 0, fun _ => 0) (fun z wd zs H locs ls hSP hP hD hS hl => ?_) (2 + bn) 0 (60 + fn) (fun _ => 0) (fun _ => 0) H locs ls cells slots (by omega) (by omega) (by omega) (SP_0 (by omega) (by omega)) hP hD hS (lv_sub hl [0, 1, 2, 3, 4, 5, 6] (rfl))
  refine lv_iload hx hb dL_law_38 (lv_at hl 0 rfl) ?_
  refine lv_iload_n hx hb dL_law_40 rfl (lv_at hl 4 rfl) ?_
  refine lv_icmp_ge (tgt := 100) hx hb dL_law_41 (by decide) (fun c41 => ?_) (fun c41 => (c41 (Int32.le_refl _)).elim)
  refine lv_iconst (v := 0) hx hb dL_law_100 (by decide) ?_
  refine lv_istore (lv' := [(6, .int 0), (5, .int 1), (4, .int (nI z)), (3, .int (nI (60 + fn))), (2, .int (nI (2 + bn))), (1, .ref x), (0, .ref b)]) hx hb dL_law_101 hl (by decide) rfl (fun ls hl => ?_)
  refine law_turns (r := r) (t := t) (d := d) (la := la) (bs := bs) (lt := lt) (bt := bt) (x := x) C I hLS (2 + bn) (by omega) (by omega) (60 + fn) wd zs (fun H locs ls cells slots hS hc hs => ?_) 140 0 0 18 (-1) 0 (fun _ => 0) (fun _ => 0) (0, 18, -1, 0, fun _ => 0, fun _ => 0, fun _ => 0) H locs ls 130 400 (by omega) (by omega) (by omega) (h0 (2 + bn) (60 + fn) z wd zs (by omega) (by omega) (by omega) (by omega) hSP) (ZU_n (2 + bn)) hP hD hS (lv_sub hl [0, 1, 3, 4, 5, 6] (rfl))
  refine va_forget (fun q hq => hS.2.2 q hq) ?_
  refine W.widen (k := 600172) (n := 7300668) (by omega) (by omega) ?_
  exact lw_ret (s := s) (d0 := s.drawn) (Drawn.sameBut.refl s.drawn lw_cs) hx hb hr hlocks dL_law_304
