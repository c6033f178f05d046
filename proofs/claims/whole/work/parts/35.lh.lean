/-! the law's helpers (laid by wip/whole/prog/lh.py) -/
def cW : List Cond := [.castable xIAE xIAE, .castable xISE xISE, .castable xIOB xIOB]
theorem cW_face : cW.all (fun w => w.onTables && w.keepsFace) = true := by decide +kernel
def XH (U : State) : Prop := (∀ w ∈ cW, w.before #[] U = true) ∧ va_Nc xISE xIAE U
theorem XH.moved {s U : State} (hW : s.WarmedH U.vm) (h : XH s) : XH U := ⟨fun w hw => face_at (List.all_eq_true.mp cW_face w hw) hW (h.1 w hw), h.2.moved hW.alike⟩
theorem XH.cast {s : State} {args : Array Value} (h : XH s) {w : Cond} (hw : w ∈ cW) : w.before args s = true := by
  have h1 := List.all_eq_true.mp cW_face w hw
  simp only [Bool.and_eq_true] at h1
  exact va_tabs h1.1 rfl (h.1 w hw)
/-- a helper's start -/
def Ph (D : va_G) (tys : List (ClassId × FieldType)) (av : List Value) (ws : va_W) (sz : Nat) : Array Value → State → Prop := va_Pc av (fun U => U.heap.size = sz ∧ va_P D vwCl ws U.heap ∧ va_K D vwCl tys U ∧ va_D (fun _ => True) ws ∧ XP (va_A ws sz) U U.heap ∧ XH U)
theorem Ph_blind {D : va_G} {tys : List (ClassId × FieldType)} {av : List Value} {ws : va_W} {sz : Nat} : FrameBlind (Ph D tys av ws sz) := fun a U g mk q => by
  obtain ⟨q0, q1, qP, qK, qD, qX, qH⟩ := q
  exact ⟨q0, q1, qP, va_K.moved (u := U) (U := U.calling g mk a) (Vm.Alike.refl U.vm) qK, qD, qX.moved (s := U) (U := U.calling g mk a) (State.WarmedH.refl U), qH.moved (s := U) (U := U.calling g mk a) (State.WarmedH.refl U)⟩
theorem phS {s : State} {H : Heap} {D : va_G} {tys : List (ClassId × FieldType)} {ws : va_W} {A : Nat → Prop} {As : List Value} (hP : va_P D vwCl ws H) (hK : va_K D vwCl tys s) (hD : va_D A ws) (hX : XP A s H) (hH : XH s) (hA : ∀ q, H.size ≤ q → A q) : PreS s H (Ph D tys As ws H.size) As :=
  ⟨Ph_blind, fun U hU hW => ⟨rfl, by rw [hU], by rw [hU]; exact hP, va_K.moved hW.alike hK, hD.weaken (fun _ _ _ _ => trivial), by
    rw [hU]
    refine (hX.moved hW).narrow (fun q h => ?_)
    rcases h with ⟨k, e, h⟩ | h
    · exact hD.2 k _ h
    · exact hA q h, hH.moved hW⟩⟩
/-- the two arrays for answers -/
abbrev OU (ol od : Nat) (cL cD : ClassId) (fl : Nat → Int64) (fd : Nat → UInt64) : va_W := [(ol, .inl (cL, (1, .inr (.inl fl)))), (od, .inl (cD, (1, .inr (.inr (.inr (.inl fd))))))]
/-- how a helper ends -/
abbrev Bh (D : va_G) (tys : List (ClassId × FieldType)) (A : Nat → Prop) : va_W → State → Prop := fun W9 t9 => va_P D vwCl W9 t9.heap ∧ va_K D vwCl tys t9 ∧ va_D A W9
theorem cl_0 : (0 : Int32).toNatClampNeg = 0 := by decide
section HCALL
variable {p : Program} {l : Launch} {e : Env} {R : Room} {s : State} {m : MethodId} {args : Array Value} {below : List Frame} {meth : Method} {c : Code} {H H0 : Heap} {locs : List Loc} {cells slots : Nat} {Q : State → Prop} {D : va_G} {A0 : Nat → Prop} {pc : Nat} {ls : Array Slot} {rest st0 : List Value} {w1 w2 w3 : va_W} {mc ms : Nat} {aa : Array Value} {tc : List (ClassId × FieldType)}
/-- a helper's call, in the middle part -/
theorem kh_i {post : Int32 → va_W → Prop} (hr : va_Run p l e R s m args below meth c H locs cells slots mc ms (F0 m pc ls st0) rest (va_Qi post (Bh D tc (va_A w2 H.size)) (va_A w2 H.size) aa) (va_A w2 H.size)) (hP : va_P D vwCl (w1 ++ (w2 ++ w3)) H) (hD : va_D A0 (w1 ++ (w2 ++ w3))) (hS : va_S A0 H0 H locs) (hA : ∀ q, H0.size ≤ q → A0 q)
    (kk : ∀ (r : Int32) (W9 : va_W) (H1 : Heap) (locs1 : List Loc), post r W9 → va_P D vwCl (w1 ++ (W9 ++ w3)) H1 → va_D A0 (w1 ++ (W9 ++ w3)) → va_S A0 H0 H1 locs1 → W p l e R s m args below meth c H1 locs1 (cells + mc) (slots + ms) Q (F0 m (pc + 3) ls (.int r :: rest))) : W p l e R s m args below meth c H locs cells slots Q (F0 m pc ls st0) := by
  refine va_calli hr hS (fun q _ h => vj_mF hD hS hA q h) (vj_mF hD hS hA) (fun r u t H1 locs1 ht hvm hw hB hz hk hS1 => ?_)
  obtain ⟨hP1, hK1, hD1⟩ := hB
  rw [ht] at hP1
  obtain ⟨hP2, hD2⟩ := vj_mid hP hD hk (vj_mF hD hS hA) hP1 hD1
  exact kk r u H1 locs1 hw hP2 hD2 hS1
end HCALL
set_option maxHeartbeats 4000000 in
set_option maxRecDepth 100000 in
theorem metL_add (l : Launch) (hst : l.stackTraces = false) (D : va_G) (sz : Nat) (x r t d : Nat) (yg : Int32) (la : Nat) (bs : Nat → Nat) (cA cI : ClassId) (n : Nat) (hn : n ≤ 8) (wm df : Int32) (q : UInt64) (wd zs : Nat → Int32) (h : Nat → UInt64) (w3 : va_W) (ol od : Nat) (cL cD : ClassId) (fl : Nat → Int64) (fd : Nat → UInt64) (x9 z9 : Int32)  : Met l yL_add wsL_add { frames := 7, cells := 1, slots := 6, locals := 104 } (Ph D [(cA, .object "VinegarLoft$Barrel"), (cI, .int), (cL, .long), (cD, .double)] [.ref x, .int x9, .int z9, .ref ol] (OU ol od cL cD fl fd ++ ([(x, EX r t d yg)] ++ (rowW r la bs cA (nI n) wm df q wd zs h ++ w3))) sz) (va_Qi (fun (r9 : Int32) (W9 : va_W) => ((¬ badA1 zs n x9 z9 ∧ n < 8) ∧ r9 = 0 ∧ W9 = OU ol od cL cD (vp_updL fl 0 (nI n).toInt64) fd ++ ([(x, EX r t d yg)] ++ (rowW r la bs cA (nI (n + 1)) wm df q (va_up wd n x9) (va_up zs n z9) (hset h n 0 0 0 0) ++ w3))) ∨ ((badA1 zs n x9 z9) ∧ r9 = 1 ∧ W9 = OU ol od cL cD fl fd ++ ([(x, EX r t d yg)] ++ (rowW r la bs cA (nI n) wm df q wd zs h ++ w3))) ∨ ((¬ badA1 zs n x9 z9 ∧ ¬ n < 8) ∧ r9 = 2 ∧ W9 = OU ol od cL cD fl fd ++ ([(x, EX r t d yg)] ++ (rowW r la bs cA (nI n) wm df q wd zs h ++ w3)))) (Bh D [(cA, .object "VinegarLoft$Barrel"), (cI, .int), (cL, .long), (cD, .double)] (va_A (OU ol od cL cD fl fd ++ ([(x, EX r t d yg)] ++ (rowW r la bs cA (nI n) wm df q wd zs h ++ w3))) sz)) (va_A (OU ol od cL cD fl fd ++ ([(x, EX r t d yg)] ++ (rowW r la bs cA (nI n) wm df q wd zs h ++ w3))) sz)) 1 6 (va_A (OU ol od cL cD fl fd ++ ([(x, EX r t d yg)] ++ (rowW r la bs cA (nI n) wm df q wd zs h ++ w3))) sz) := by
  refine kMet_H (cc := cL_add) (maxL := 5) (ret := (some .int)) (hh := [(0, 10, 13, 13), (0, 10, 17, 15)]) (by decide) rfl ?_
  intro p e s m args below meth c s₁ B hml htab hv
  obtain ⟨rfl, hsz, hP, hK, hD0, hX, hH⟩ := hv
  have hx := B.exec
  have hb := B.bytes
  have hr := B.returns
  have hts := atoms_spec (ws := wsL_add) B.pre
  have hown : s.vm.findClass RL = some m.cls := findClass_of_methodNamed B.named
  have hlocks := B.notSynchronized
  subst hsz
  have hD := hD0.self (sz := s.heap.size)
  generalize hAe : va_A (OU ol od cL cD fl fd ++ ([(x, EX r t d yg)] ++ (rowW r la bs cA (nI n) wm df q wd zs h ++ w3))) s.heap.size = A at hD hX ⊢
  have hA : ∀ q : Nat, s.heap.size ≤ q → A q := fun q h => by rw [← hAe]; exact Or.inr h
  refine kW_H (fun H hH0 => ?_)
  have hP : va_P D vwCl (OU ol od cL cD fl fd ++ (([(x, EX r t d yg)] ++ (rowW r la bs cA (nI n) wm df q wd zs h ++ w3)) ++ [])) H := by rw [List.append_nil, hH0]; exact hP
  have hD : va_D A (OU ol od cL cD fl fd ++ (([(x, EX r t d yg)] ++ (rowW r la bs cA (nI n) wm df q wd zs h ++ w3)) ++ [])) := by rw [List.append_nil]; exact hD
  have hS : va_S A s.heap H [] := by rw [hH0]; exact va_S.rf
  have hl := lv_entry ([.ref x, .int x9, .int z9, .ref ol]) (n := 5) (Nat.le_of_ble_eq_true rfl)
  rw [lg_entry_eq]
  generalize (lg_sl ([.ref x, .int x9, .int z9, .ref ol]) ++ List.replicate (5 - (lg_sl ([.ref x, .int x9, .int z9, .ref ol])).length) Slot.unset).toArray = ls at hl ⊢
  have hl : lv_has ls 5 [(0, .ref x), (1, .int x9), (2, .int z9), (3, .ref ol)] := hl
  refine lv_aload_n hx hb dL_add_0 rfl (lv_at hl 3 rfl) ?_
  refine lv_iconst (v := 0) hx hb dL_add_1 (by decide) ?_
  refine lv_aload_n hx hb dL_add_2 rfl (lv_at hl 0 rfl) ?_
  refine lv_iload_n hx hb dL_add_3 rfl (lv_at hl 1 rfl) ?_
  refine lv_iload_n hx hb dL_add_4 rfl (lv_at hl 2 rfl) ?_
  have hX9 : XP A s H := hX.kept hS.2.1
  have hA9 : ∀ q : Nat, H.size ≤ q → A q := fun q h9 => hA q (Nat.le_trans hS.1 h9)
  refine kq_i (w1 := OU ol od cL cD fl fd) (w2 := [(x, EX r t d yg)] ++ (rowW r la bs cA (nI n) wm df q wd zs h ++ w3)) (w3 := []) (vx_runV (As := [.int x9, .int z9]) (rest := [.int 0, .ref ol]) ⟨hx, hb, hml, hown, hts⟩ (metX2_add l hst D H.size x r t d yg la bs cA cI n hn wm df q wd zs h w3 x9 z9 ) (cwV 2 hts gL_add_X2_add rfl rfl rfl (by decide +kernel) ⟨Nat.le_of_ble_eq_true rfl, Nat.le_of_ble_eq_true rfl⟩) (ptV 2 0 RX2 TX2 4 rfl rfl (vj_mP hP) (hK.sub [0, 1] rfl) (vj_mD hD) hX9 hA9) rfl rfl hl.1 rfl (lv_room (Nat.le_of_ble_eq_true rfl)) dL_add_5 ⟨Nat.le_of_ble_eq_true rfl, Nat.le_of_ble_eq_true rfl⟩) hP hD hS hA (fun E ce q9 H locs hB hP hD hS hce hcv hcl => ?_) (fun H locs hok hP hD hS => ?_)
  · rcases hB with ⟨rfl, hbad⟩ | ⟨rfl, hbad⟩
    · rw [List.append_nil] at hP hD
      refine vx_catch (own := RL) (name := xIAE) (E := xIAE) hown [] ⟨0, 10, 13, 13⟩ [⟨0, 10, 17, 15⟩] htab (fun z hz => absurd hz List.not_mem_nil) (by decide) (by decide) (hts (.classLink RL 13 xIAE) (by decide +kernel)) (hH.cast (w := .castable xIAE xIAE) (by decide)) hce hcv hcl ?_
      refine W.eq (g2 := F0 m 13 ls [.ref q9]) rfl ?_
      refine lv_astore (lv' := [(4, .ref q9), (0, .ref x), (1, .int x9), (2, .int z9), (3, .ref ol)]) hx hb dL_add_13 hl (by decide) rfl (fun ls hl => ?_)
      refine lv_iconst (v := 1) hx hb dL_add_15 (by decide) ?_
      refine W.widen (k := 1) (n := 6) (Nat.le_of_ble_eq_true rfl) (Nat.le_of_ble_eq_true rfl) ?_
      exact W.iret hx hb hr (fun t9 ht9 hW => ⟨⟨_, OU ol od cL cD fl fd ++ ([(x, EX r t d yg)] ++ (rowW r la bs cA (nI n) wm df q wd zs h ++ w3)), rfl, Or.inr (Or.inl ⟨hbad, rfl, rfl⟩), by rw [ht9]; exact hP, va_K.moved hW.alike hK, hD⟩, hS.F ht9⟩) hS.2.2 dL_add_16
    · rw [List.append_nil] at hP hD
      refine vx_catch (own := RL) (name := xISE) (E := xISE) hown [⟨0, 10, 13, 13⟩] ⟨0, 10, 17, 15⟩ [] htab (fun z hz => by rw [List.mem_singleton.mp hz]; exact Or.inr ⟨(by decide), xIAE, hts (.classLink RL 13 xIAE) (by decide +kernel), hH.2⟩) (by decide) (by decide) (hts (.classLink RL 15 xISE) (by decide +kernel)) (hH.cast (w := .castable xISE xISE) (by decide)) hce hcv hcl ?_
      refine W.eq (g2 := F0 m 17 ls [.ref q9]) rfl ?_
      refine lv_astore (lv' := [(4, .ref q9), (0, .ref x), (1, .int x9), (2, .int z9), (3, .ref ol)]) hx hb dL_add_17 hl (by decide) rfl (fun ls hl => ?_)
      refine lv_iconst (v := 2) hx hb dL_add_19 (by decide) ?_
      refine W.widen (k := 1) (n := 6) (Nat.le_of_ble_eq_true rfl) (Nat.le_of_ble_eq_true rfl) ?_
      exact W.iret hx hb hr (fun t9 ht9 hW => ⟨⟨_, OU ol od cL cD fl fd ++ ([(x, EX r t d yg)] ++ (rowW r la bs cA (nI n) wm df q wd zs h ++ w3)), rfl, Or.inr (Or.inr (⟨hbad, rfl, rfl⟩)), by rw [ht9]; exact hP, va_K.moved hW.alike hK, hD⟩, hS.F ht9⟩) hS.2.2 dL_add_20
  rw [List.append_nil] at hP hD
  have hP : va_P D vwCl (OU ol od cL cD fl fd ++ ([(x, EX r t d yg)] ++ (rowW r la bs cA (nI (n + 1)) wm df q (va_up wd n x9) (va_up zs n z9) (hset h n 0 0 0 0) ++ w3))) H := hP
  have hD : va_D A (OU ol od cL cD fl fd ++ ([(x, EX r t d yg)] ++ (rowW r la bs cA (nI (n + 1)) wm df q (va_up wd n x9) (va_up zs n z9) (hset h n 0 0 0 0) ++ w3))) := hD
  refine lv_i2l (v := (nI n).toInt64) hx hb dL_add_8 rfl ?_
  refine va_last hx hb hK hP hD hS 0 2 (f := fl) rfl rfl (i := 0) (vp_in_nI (n := 0) (N := 1) (by decide) (by decide)) dL_add_9 (fun H locs hP hD hS => ?_)
  rw [cl_0] at hP hD
  have hP : va_P D vwCl (OU ol od cL cD (vp_updL fl 0 (nI n).toInt64) fd ++ ([(x, EX r t d yg)] ++ (rowW r la bs cA (nI (n + 1)) wm df q (va_up wd n x9) (va_up zs n z9) (hset h n 0 0 0 0) ++ w3))) H := hP
  have hD : va_D A (OU ol od cL cD (vp_updL fl 0 (nI n).toInt64) fd ++ ([(x, EX r t d yg)] ++ (rowW r la bs cA (nI (n + 1)) wm df q (va_up wd n x9) (va_up zs n z9) (hset h n 0 0 0 0) ++ w3))) := hD
  refine lv_goto (tgt := 21) hx hb dL_add_10 (by decide) ?_
  refine lv_iconst (v := 0) hx hb dL_add_21 (by decide) ?_
  refine W.widen (k := 1) (n := 6) (Nat.le_of_ble_eq_true rfl) (Nat.le_of_ble_eq_true rfl) ?_
  exact W.iret hx hb hr (fun t9 ht9 hW => ⟨⟨_, OU ol od cL cD (vp_updL fl 0 (nI n).toInt64) fd ++ ([(x, EX r t d yg)] ++ (rowW r la bs cA (nI (n + 1)) wm df q (va_up wd n x9) (va_up zs n z9) (hset h n 0 0 0 0) ++ w3)), rfl, Or.inl ⟨hok, rfl, rfl⟩, by rw [ht9]; exact hP, va_K.moved hW.alike hK, hD⟩, hS.F ht9⟩) hS.2.2 dL_add_22

set_option maxHeartbeats 4000000 in
set_option maxRecDepth 100000 in
theorem metL_fill (l : Launch) (hst : l.stackTraces = false) (D : va_G) (sz : Nat) (x r t d : Nat) (yg : Int32) (la : Nat) (bs : Nat → Nat) (cA cI : ClassId) (n : Nat) (hn : n ≤ 8) (wm df : Int32) (q : UInt64) (wd zs : Nat → Int32) (h : Nat → UInt64) (w3 : va_W) (ol od : Nat) (cL cD : ClassId) (fl : Nat → Int64) (fd : Nat → UInt64) (x9 : Int32) (hp : ¬ badR 1 100 x9 → n ≠ 0 → pook (zs 0) h (FP.i2d x9)) : Met l yL_fill wsL_fill { frames := 7, cells := 1, slots := 6, locals := 104 } (Ph D [(cA, .object "VinegarLoft$Barrel"), (cI, .int), (cL, .long), (cD, .double)] [.ref x, .int x9, .ref od] (OU ol od cL cD fl fd ++ ([(x, EX r t d yg)] ++ (rowW r la bs cA (nI n) wm df q wd zs h ++ w3))) sz) (va_Qi (fun (r9 : Int32) (W9 : va_W) => ((¬ badR 1 100 x9) ∧ r9 = 0 ∧ W9 = OU ol od cL cD fl (vf_upd fd 0 (pmR n zs h (FP.i2d x9))) ++ ([(x, EX r t d yg)] ++ (rowW r la bs cA (nI n) wm df q wd zs (pmH n zs h (FP.i2d x9)) ++ w3))) ∨ ((badR 1 100 x9) ∧ r9 = 1 ∧ W9 = OU ol od cL cD fl fd ++ ([(x, EX r t d yg)] ++ (rowW r la bs cA (nI n) wm df q wd zs h ++ w3)))) (Bh D [(cA, .object "VinegarLoft$Barrel"), (cI, .int), (cL, .long), (cD, .double)] (va_A (OU ol od cL cD fl fd ++ ([(x, EX r t d yg)] ++ (rowW r la bs cA (nI n) wm df q wd zs h ++ w3))) sz)) (va_A (OU ol od cL cD fl fd ++ ([(x, EX r t d yg)] ++ (rowW r la bs cA (nI n) wm df q wd zs h ++ w3))) sz)) 1 6 (va_A (OU ol od cL cD fl fd ++ ([(x, EX r t d yg)] ++ (rowW r la bs cA (nI n) wm df q wd zs h ++ w3))) sz) := by
  refine kMet_H (cc := cL_fill) (maxL := 4) (ret := (some .int)) (hh := [(0, 8, 11, 13)]) (by decide) rfl ?_
  intro p e s m args below meth c s₁ B hml htab hv
  obtain ⟨rfl, hsz, hP, hK, hD0, hX, hH⟩ := hv
  have hx := B.exec
  have hb := B.bytes
  have hr := B.returns
  have hts := atoms_spec (ws := wsL_fill) B.pre
  have hown : s.vm.findClass RL = some m.cls := findClass_of_methodNamed B.named
  have hlocks := B.notSynchronized
  subst hsz
  have hD := hD0.self (sz := s.heap.size)
  generalize hAe : va_A (OU ol od cL cD fl fd ++ ([(x, EX r t d yg)] ++ (rowW r la bs cA (nI n) wm df q wd zs h ++ w3))) s.heap.size = A at hD hX ⊢
  have hA : ∀ q : Nat, s.heap.size ≤ q → A q := fun q h => by rw [← hAe]; exact Or.inr h
  refine kW_H (fun H hH0 => ?_)
  have hP : va_P D vwCl (OU ol od cL cD fl fd ++ (([(x, EX r t d yg)] ++ (rowW r la bs cA (nI n) wm df q wd zs h ++ w3)) ++ [])) H := by rw [List.append_nil, hH0]; exact hP
  have hD : va_D A (OU ol od cL cD fl fd ++ (([(x, EX r t d yg)] ++ (rowW r la bs cA (nI n) wm df q wd zs h ++ w3)) ++ [])) := by rw [List.append_nil]; exact hD
  have hS : va_S A s.heap H [] := by rw [hH0]; exact va_S.rf
  have hl := lv_entry ([.ref x, .int x9, .ref od]) (n := 4) (Nat.le_of_ble_eq_true rfl)
  rw [lg_entry_eq]
  generalize (lg_sl ([.ref x, .int x9, .ref od]) ++ List.replicate (4 - (lg_sl ([.ref x, .int x9, .ref od])).length) Slot.unset).toArray = ls at hl ⊢
  have hl : lv_has ls 4 [(0, .ref x), (1, .int x9), (2, .ref od)] := hl
  refine lv_aload_n hx hb dL_fill_0 rfl (lv_at hl 2 rfl) ?_
  refine lv_iconst (v := 0) hx hb dL_fill_1 (by decide) ?_
  refine lv_aload_n hx hb dL_fill_2 rfl (lv_at hl 0 rfl) ?_
  refine lv_iload_n hx hb dL_fill_3 rfl (lv_at hl 1 rfl) ?_
  have hX9 : XP A s H := hX.kept hS.2.1
  have hA9 : ∀ q : Nat, H.size ≤ q → A q := fun q h9 => hA q (Nat.le_trans hS.1 h9)
  refine kq_d (w1 := OU ol od cL cD fl fd) (w2 := [(x, EX r t d yg)] ++ (rowW r la bs cA (nI n) wm df q wd zs h ++ w3)) (w3 := []) (vx_runV (As := [.int x9]) (rest := [.int 0, .ref od]) ⟨hx, hb, hml, hown, hts⟩ (metX2_fill l hst D H.size x r t d yg la bs cA cI n hn wm df q wd zs h w3 x9 hp) (cwV 1 hts gL_fill_X2_fill rfl rfl rfl (by decide +kernel) ⟨Nat.le_of_ble_eq_true rfl, Nat.le_of_ble_eq_true rfl⟩) (ptV 2 0 RX2 TX2 4 rfl rfl (vj_mP hP) (hK.sub [0, 1] rfl) (vj_mD hD) hX9 hA9) rfl rfl hl.1 rfl (lv_room (Nat.le_of_ble_eq_true rfl)) dL_fill_4 ⟨Nat.le_of_ble_eq_true rfl, Nat.le_of_ble_eq_true rfl⟩) hP hD hS hA (fun E ce q9 H locs hB hP hD hS hce hcv hcl => ?_) (fun H locs hok hP hD hS => ?_)
  · obtain ⟨rfl, hbad⟩ := hB
    rw [List.append_nil] at hP hD
    refine vx_catch (own := RL) (name := xIAE) (E := xIAE) hown [] ⟨0, 8, 11, 13⟩ [] htab (fun z hz => absurd hz List.not_mem_nil) (by decide) (by decide) (hts (.classLink RL 13 xIAE) (by decide +kernel)) (hH.cast (w := .castable xIAE xIAE) (by decide)) hce hcv hcl ?_
    refine W.eq (g2 := F0 m 11 ls [.ref q9]) rfl ?_
    refine lv_astore_n (lv' := [(3, .ref q9), (0, .ref x), (1, .int x9), (2, .ref od)]) hx hb dL_fill_11 rfl hl (by decide) rfl (fun ls hl => ?_)
    refine lv_iconst (v := 1) hx hb dL_fill_12 (by decide) ?_
    refine W.widen (k := 1) (n := 6) (Nat.le_of_ble_eq_true rfl) (Nat.le_of_ble_eq_true rfl) ?_
    exact W.iret hx hb hr (fun t9 ht9 hW => ⟨⟨_, OU ol od cL cD fl fd ++ ([(x, EX r t d yg)] ++ (rowW r la bs cA (nI n) wm df q wd zs h ++ w3)), rfl, Or.inr (⟨hbad, rfl, rfl⟩), by rw [ht9]; exact hP, va_K.moved hW.alike hK, hD⟩, hS.F ht9⟩) hS.2.2 dL_fill_13
  rw [List.append_nil] at hP hD
  have hP : va_P D vwCl (OU ol od cL cD fl fd ++ ([(x, EX r t d yg)] ++ (rowW r la bs cA (nI n) wm df q wd zs (pmH n zs h (FP.i2d x9)) ++ w3))) H := hP
  have hD : va_D A (OU ol od cL cD fl fd ++ ([(x, EX r t d yg)] ++ (rowW r la bs cA (nI n) wm df q wd zs (pmH n zs h (FP.i2d x9)) ++ w3))) := hD
  refine va_dast hx hb hK hP hD hS 1 3 (f := fd) rfl rfl (i := 0) (vp_in_nI (n := 0) (N := 1) (by decide) (by decide)) dL_fill_7 (fun H locs hP hD hS => ?_)
  rw [cl_0] at hP hD
  have hP : va_P D vwCl (OU ol od cL cD fl (vf_upd fd 0 (pmR n zs h (FP.i2d x9))) ++ ([(x, EX r t d yg)] ++ (rowW r la bs cA (nI n) wm df q wd zs (pmH n zs h (FP.i2d x9)) ++ w3))) H := hP
  have hD : va_D A (OU ol od cL cD fl (vf_upd fd 0 (pmR n zs h (FP.i2d x9))) ++ ([(x, EX r t d yg)] ++ (rowW r la bs cA (nI n) wm df q wd zs (pmH n zs h (FP.i2d x9)) ++ w3))) := hD
  refine lv_goto (tgt := 14) hx hb dL_fill_8 (by decide) ?_
  refine lv_iconst (v := 0) hx hb dL_fill_14 (by decide) ?_
  refine W.widen (k := 1) (n := 6) (Nat.le_of_ble_eq_true rfl) (Nat.le_of_ble_eq_true rfl) ?_
  exact W.iret hx hb hr (fun t9 ht9 hW => ⟨⟨_, OU ol od cL cD fl (vf_upd fd 0 (pmR n zs h (FP.i2d x9))) ++ ([(x, EX r t d yg)] ++ (rowW r la bs cA (nI n) wm df q wd zs (pmH n zs h (FP.i2d x9)) ++ w3)), rfl, Or.inl ⟨hok, rfl, rfl⟩, by rw [ht9]; exact hP, va_K.moved hW.alike hK, hD⟩, hS.F ht9⟩) hS.2.2 dL_fill_15

set_option maxHeartbeats 4000000 in
set_option maxRecDepth 100000 in
theorem metL_setWarmth (l : Launch) (hst : l.stackTraces = false) (D : va_G) (sz : Nat) (x r t d : Nat) (yg : Int32) (la : Nat) (bs : Nat → Nat) (cA cI : ClassId) (n : Nat) (hn : n ≤ 8) (wm df : Int32) (q : UInt64) (wd zs : Nat → Int32) (h : Nat → UInt64) (w3 : va_W) (ol od : Nat) (cL cD : ClassId) (fl : Nat → Int64) (fd : Nat → UInt64) (x9 : Int32)  : Met l yL_setWarmth wsL_setWarmth { frames := 7, cells := 1, slots := 6, locals := 103 } (Ph D [(cA, .object "VinegarLoft$Barrel"), (cI, .int), (cL, .long), (cD, .double)] [.ref x, .int x9] (OU ol od cL cD fl fd ++ ([(x, EX r t d yg)] ++ (rowW r la bs cA (nI n) wm df q wd zs h ++ w3))) sz) (va_Qi (fun (r9 : Int32) (W9 : va_W) => ((¬ badR 0 40 x9) ∧ r9 = 0 ∧ W9 = OU ol od cL cD fl fd ++ ([(x, EX r t d yg)] ++ (rowW r la bs cA (nI n) x9 df q wd zs h ++ w3))) ∨ ((badR 0 40 x9) ∧ r9 = 1 ∧ W9 = OU ol od cL cD fl fd ++ ([(x, EX r t d yg)] ++ (rowW r la bs cA (nI n) wm df q wd zs h ++ w3)))) (Bh D [(cA, .object "VinegarLoft$Barrel"), (cI, .int), (cL, .long), (cD, .double)] (va_A (OU ol od cL cD fl fd ++ ([(x, EX r t d yg)] ++ (rowW r la bs cA (nI n) wm df q wd zs h ++ w3))) sz)) (va_A (OU ol od cL cD fl fd ++ ([(x, EX r t d yg)] ++ (rowW r la bs cA (nI n) wm df q wd zs h ++ w3))) sz)) 1 6 (va_A (OU ol od cL cD fl fd ++ ([(x, EX r t d yg)] ++ (rowW r la bs cA (nI n) wm df q wd zs h ++ w3))) sz) := by
  refine kMet_H (cc := cL_setWarmth) (maxL := 3) (ret := (some .int)) (hh := [(0, 5, 8, 13)]) (by decide) rfl ?_
  intro p e s m args below meth c s₁ B hml htab hv
  obtain ⟨rfl, hsz, hP, hK, hD0, hX, hH⟩ := hv
  have hx := B.exec
  have hb := B.bytes
  have hr := B.returns
  have hts := atoms_spec (ws := wsL_setWarmth) B.pre
  have hown : s.vm.findClass RL = some m.cls := findClass_of_methodNamed B.named
  have hlocks := B.notSynchronized
  subst hsz
  have hD := hD0.self (sz := s.heap.size)
  generalize hAe : va_A (OU ol od cL cD fl fd ++ ([(x, EX r t d yg)] ++ (rowW r la bs cA (nI n) wm df q wd zs h ++ w3))) s.heap.size = A at hD hX ⊢
  have hA : ∀ q : Nat, s.heap.size ≤ q → A q := fun q h => by rw [← hAe]; exact Or.inr h
  refine kW_H (fun H hH0 => ?_)
  have hP : va_P D vwCl (OU ol od cL cD fl fd ++ (([(x, EX r t d yg)] ++ (rowW r la bs cA (nI n) wm df q wd zs h ++ w3)) ++ [])) H := by rw [List.append_nil, hH0]; exact hP
  have hD : va_D A (OU ol od cL cD fl fd ++ (([(x, EX r t d yg)] ++ (rowW r la bs cA (nI n) wm df q wd zs h ++ w3)) ++ [])) := by rw [List.append_nil]; exact hD
  have hS : va_S A s.heap H [] := by rw [hH0]; exact va_S.rf
  have hl := lv_entry ([.ref x, .int x9]) (n := 3) (Nat.le_of_ble_eq_true rfl)
  rw [lg_entry_eq]
  generalize (lg_sl ([.ref x, .int x9]) ++ List.replicate (3 - (lg_sl ([.ref x, .int x9])).length) Slot.unset).toArray = ls at hl ⊢
  have hl : lv_has ls 3 [(0, .ref x), (1, .int x9)] := hl
  refine lv_aload_n hx hb dL_setWarmth_0 rfl (lv_at hl 0 rfl) ?_
  refine lv_iload_n hx hb dL_setWarmth_1 rfl (lv_at hl 1 rfl) ?_
  have hX9 : XP A s H := hX.kept hS.2.1
  have hA9 : ∀ q : Nat, H.size ≤ q → A q := fun q h9 => hA q (Nat.le_trans hS.1 h9)
  refine kq_v (w1 := OU ol od cL cD fl fd) (w2 := [(x, EX r t d yg)] ++ (rowW r la bs cA (nI n) wm df q wd zs h ++ w3)) (w3 := []) (vx_runV (As := [.int x9]) (rest := []) ⟨hx, hb, hml, hown, hts⟩ (metX2_setWarmth l hst D H.size x r t d yg la bs cA cI n hn wm df q wd zs h w3 x9 ) (cwV 1 hts gL_setWarmth_X2_setWarmth rfl rfl rfl (by decide +kernel) ⟨Nat.le_of_ble_eq_true rfl, Nat.le_of_ble_eq_true rfl⟩) (ptV 2 0 RX2 TX2 4 rfl rfl (vj_mP hP) (hK.sub [0, 1] rfl) (vj_mD hD) hX9 hA9) rfl rfl hl.1 rfl (lv_room (Nat.le_of_ble_eq_true rfl)) dL_setWarmth_2 ⟨Nat.le_of_ble_eq_true rfl, Nat.le_of_ble_eq_true rfl⟩) hP hD hS hA (fun E ce q9 H locs hB hP hD hS hce hcv hcl => ?_) (fun H locs hok hP hD hS => ?_)
  · obtain ⟨rfl, hbad⟩ := hB
    rw [List.append_nil] at hP hD
    refine vx_catch (own := RL) (name := xIAE) (E := xIAE) hown [] ⟨0, 5, 8, 13⟩ [] htab (fun z hz => absurd hz List.not_mem_nil) (by decide) (by decide) (hts (.classLink RL 13 xIAE) (by decide +kernel)) (hH.cast (w := .castable xIAE xIAE) (by decide)) hce hcv hcl ?_
    refine W.eq (g2 := F0 m 8 ls [.ref q9]) rfl ?_
    refine lv_astore_n (lv' := [(2, .ref q9), (0, .ref x), (1, .int x9)]) hx hb dL_setWarmth_8 rfl hl (by decide) rfl (fun ls hl => ?_)
    refine lv_iconst (v := 1) hx hb dL_setWarmth_9 (by decide) ?_
    refine W.widen (k := 1) (n := 6) (Nat.le_of_ble_eq_true rfl) (Nat.le_of_ble_eq_true rfl) ?_
    exact W.iret hx hb hr (fun t9 ht9 hW => ⟨⟨_, OU ol od cL cD fl fd ++ ([(x, EX r t d yg)] ++ (rowW r la bs cA (nI n) wm df q wd zs h ++ w3)), rfl, Or.inr (⟨hbad, rfl, rfl⟩), by rw [ht9]; exact hP, va_K.moved hW.alike hK, hD⟩, hS.F ht9⟩) hS.2.2 dL_setWarmth_10
  rw [List.append_nil] at hP hD
  have hP : va_P D vwCl (OU ol od cL cD fl fd ++ ([(x, EX r t d yg)] ++ (rowW r la bs cA (nI n) x9 df q wd zs h ++ w3))) H := hP
  have hD : va_D A (OU ol od cL cD fl fd ++ ([(x, EX r t d yg)] ++ (rowW r la bs cA (nI n) x9 df q wd zs h ++ w3))) := hD
  refine lv_goto (tgt := 11) hx hb dL_setWarmth_5 (by decide) ?_
  refine lv_iconst (v := 0) hx hb dL_setWarmth_11 (by decide) ?_
  refine W.widen (k := 1) (n := 6) (Nat.le_of_ble_eq_true rfl) (Nat.le_of_ble_eq_true rfl) ?_
  exact W.iret hx hb hr (fun t9 ht9 hW => ⟨⟨_, OU ol od cL cD fl fd ++ ([(x, EX r t d yg)] ++ (rowW r la bs cA (nI n) x9 df q wd zs h ++ w3)), rfl, Or.inl ⟨hok, rfl, rfl⟩, by rw [ht9]; exact hP, va_K.moved hW.alike hK, hD⟩, hS.F ht9⟩) hS.2.2 dL_setWarmth_12

set_option maxHeartbeats 4000000 in
set_option maxRecDepth 100000 in
theorem metL_bottles (l : Launch) (hst : l.stackTraces = false) (D : va_G) (sz : Nat) (x r t d : Nat) (yg : Int32) (la : Nat) (bs : Nat → Nat) (cA cI : ClassId) (n : Nat) (hn : n ≤ 8) (wm df : Int32) (q : UInt64) (wd zs : Nat → Int32) (h : Nat → UInt64) (w4 : va_W) (dk : Nat → Int32) (ol od : Nat) (cL cD : ClassId) (fl : Nat → Int64) (fd : Nat → UInt64) (x9 : Int32)  : Met l yL_bottles wsL_bottles { frames := 7, cells := 1, slots := 6, locals := 103 } (Ph D [(cA, .object "VinegarLoft$Barrel"), (cI, .int), (cL, .long), (cD, .double)] [.ref x, .int x9, .ref ol] (OU ol od cL cD fl fd ++ ([(x, EX r t d yg)] ++ (rowW r la bs cA (nI n) wm df q wd zs h ++ (w4 ++ [(d, ED cI dk)])))) sz) (va_Qi (fun (r9 : Int32) (W9 : va_W) => ((¬ badR 0 2 x9) ∧ r9 = 0 ∧ W9 = OU ol od cL cD (vp_updL fl 0 (dk x9.toNatClampNeg).toInt64) fd ++ ([(x, EX r t d yg)] ++ (rowW r la bs cA (nI n) wm df q wd zs h ++ (w4 ++ [(d, ED cI dk)])))) ∨ ((badR 0 2 x9) ∧ r9 = 1 ∧ W9 = OU ol od cL cD fl fd ++ ([(x, EX r t d yg)] ++ (rowW r la bs cA (nI n) wm df q wd zs h ++ (w4 ++ [(d, ED cI dk)]))))) (Bh D [(cA, .object "VinegarLoft$Barrel"), (cI, .int), (cL, .long), (cD, .double)] (va_A (OU ol od cL cD fl fd ++ ([(x, EX r t d yg)] ++ (rowW r la bs cA (nI n) wm df q wd zs h ++ (w4 ++ [(d, ED cI dk)])))) sz)) (va_A (OU ol od cL cD fl fd ++ ([(x, EX r t d yg)] ++ (rowW r la bs cA (nI n) wm df q wd zs h ++ (w4 ++ [(d, ED cI dk)])))) sz)) 1 6 (va_A (OU ol od cL cD fl fd ++ ([(x, EX r t d yg)] ++ (rowW r la bs cA (nI n) wm df q wd zs h ++ (w4 ++ [(d, ED cI dk)])))) sz) := by
  refine kMet_H (cc := cL_bottles) (maxL := 4) (ret := (some .int)) (hh := [(0, 9, 12, 13)]) (by decide) rfl ?_
  intro p e s m args below meth c s₁ B hml htab hv
  obtain ⟨rfl, hsz, hP, hK, hD0, hX, hH⟩ := hv
  have hx := B.exec
  have hb := B.bytes
  have hr := B.returns
  have hts := atoms_spec (ws := wsL_bottles) B.pre
  have hown : s.vm.findClass RL = some m.cls := findClass_of_methodNamed B.named
  have hlocks := B.notSynchronized
  subst hsz
  have hD := hD0.self (sz := s.heap.size)
  generalize hAe : va_A (OU ol od cL cD fl fd ++ ([(x, EX r t d yg)] ++ (rowW r la bs cA (nI n) wm df q wd zs h ++ (w4 ++ [(d, ED cI dk)])))) s.heap.size = A at hD hX ⊢
  have hA : ∀ q : Nat, s.heap.size ≤ q → A q := fun q h => by rw [← hAe]; exact Or.inr h
  refine kW_H (fun H hH0 => ?_)
  have hP : va_P D vwCl (OU ol od cL cD fl fd ++ (([(x, EX r t d yg)] ++ (rowW r la bs cA (nI n) wm df q wd zs h ++ (w4 ++ [(d, ED cI dk)]))) ++ [])) H := by rw [List.append_nil, hH0]; exact hP
  have hD : va_D A (OU ol od cL cD fl fd ++ (([(x, EX r t d yg)] ++ (rowW r la bs cA (nI n) wm df q wd zs h ++ (w4 ++ [(d, ED cI dk)]))) ++ [])) := by rw [List.append_nil]; exact hD
  have hS : va_S A s.heap H [] := by rw [hH0]; exact va_S.rf
  have hl := lv_entry ([.ref x, .int x9, .ref ol]) (n := 4) (Nat.le_of_ble_eq_true rfl)
  rw [lg_entry_eq]
  generalize (lg_sl ([.ref x, .int x9, .ref ol]) ++ List.replicate (4 - (lg_sl ([.ref x, .int x9, .ref ol])).length) Slot.unset).toArray = ls at hl ⊢
  have hl : lv_has ls 4 [(0, .ref x), (1, .int x9), (2, .ref ol)] := hl
  refine lv_aload_n hx hb dL_bottles_0 rfl (lv_at hl 2 rfl) ?_
  refine lv_iconst (v := 0) hx hb dL_bottles_1 (by decide) ?_
  refine lv_aload_n hx hb dL_bottles_2 rfl (lv_at hl 0 rfl) ?_
  refine lv_iload_n hx hb dL_bottles_3 rfl (lv_at hl 1 rfl) ?_
  have hX9 : XP A s H := hX.kept hS.2.1
  have hA9 : ∀ q : Nat, H.size ≤ q → A q := fun q h9 => hA q (Nat.le_trans hS.1 h9)
  refine kq_i (w1 := OU ol od cL cD fl fd) (w2 := [(x, EX r t d yg)] ++ (rowW r la bs cA (nI n) wm df q wd zs h ++ (w4 ++ [(d, ED cI dk)]))) (w3 := []) (vx_runV (As := [.int x9]) (rest := [.int 0, .ref ol]) ⟨hx, hb, hml, hown, hts⟩ (metX2_bottles l hst D H.size x r t d yg la bs cA cI n hn wm df q wd zs h w4 dk x9 ) (cwV 1 hts gL_bottles_X2_bottles rfl rfl rfl (by decide +kernel) ⟨Nat.le_of_ble_eq_true rfl, Nat.le_of_ble_eq_true rfl⟩) (ptV 2 0 RX2 TX2 4 rfl rfl (vj_mP hP) (hK.sub [0, 1] rfl) (vj_mD hD) hX9 hA9) rfl rfl hl.1 rfl (lv_room (Nat.le_of_ble_eq_true rfl)) dL_bottles_4 ⟨Nat.le_of_ble_eq_true rfl, Nat.le_of_ble_eq_true rfl⟩) hP hD hS hA (fun E ce q9 H locs hB hP hD hS hce hcv hcl => ?_) (fun H locs hok hP hD hS => ?_)
  · obtain ⟨rfl, hbad⟩ := hB
    rw [List.append_nil] at hP hD
    refine vx_catch (own := RL) (name := xIAE) (E := xIAE) hown [] ⟨0, 9, 12, 13⟩ [] htab (fun z hz => absurd hz List.not_mem_nil) (by decide) (by decide) (hts (.classLink RL 13 xIAE) (by decide +kernel)) (hH.cast (w := .castable xIAE xIAE) (by decide)) hce hcv hcl ?_
    refine W.eq (g2 := F0 m 12 ls [.ref q9]) rfl ?_
    refine lv_astore_n (lv' := [(3, .ref q9), (0, .ref x), (1, .int x9), (2, .ref ol)]) hx hb dL_bottles_12 rfl hl (by decide) rfl (fun ls hl => ?_)
    refine lv_iconst (v := 1) hx hb dL_bottles_13 (by decide) ?_
    refine W.widen (k := 1) (n := 6) (Nat.le_of_ble_eq_true rfl) (Nat.le_of_ble_eq_true rfl) ?_
    exact W.iret hx hb hr (fun t9 ht9 hW => ⟨⟨_, OU ol od cL cD fl fd ++ ([(x, EX r t d yg)] ++ (rowW r la bs cA (nI n) wm df q wd zs h ++ (w4 ++ [(d, ED cI dk)]))), rfl, Or.inr (⟨hbad, rfl, rfl⟩), by rw [ht9]; exact hP, va_K.moved hW.alike hK, hD⟩, hS.F ht9⟩) hS.2.2 dL_bottles_14
  rw [List.append_nil] at hP hD
  have hP : va_P D vwCl (OU ol od cL cD fl fd ++ ([(x, EX r t d yg)] ++ (rowW r la bs cA (nI n) wm df q wd zs h ++ (w4 ++ [(d, ED cI dk)])))) H := hP
  have hD : va_D A (OU ol od cL cD fl fd ++ ([(x, EX r t d yg)] ++ (rowW r la bs cA (nI n) wm df q wd zs h ++ (w4 ++ [(d, ED cI dk)])))) := hD
  refine lv_i2l (v := (dk x9.toNatClampNeg).toInt64) hx hb dL_bottles_7 rfl ?_
  refine va_last hx hb hK hP hD hS 0 2 (f := fl) rfl rfl (i := 0) (vp_in_nI (n := 0) (N := 1) (by decide) (by decide)) dL_bottles_8 (fun H locs hP hD hS => ?_)
  rw [cl_0] at hP hD
  have hP : va_P D vwCl (OU ol od cL cD (vp_updL fl 0 (dk x9.toNatClampNeg).toInt64) fd ++ ([(x, EX r t d yg)] ++ (rowW r la bs cA (nI n) wm df q wd zs h ++ (w4 ++ [(d, ED cI dk)])))) H := hP
  have hD : va_D A (OU ol od cL cD (vp_updL fl 0 (dk x9.toNatClampNeg).toInt64) fd ++ ([(x, EX r t d yg)] ++ (rowW r la bs cA (nI n) wm df q wd zs h ++ (w4 ++ [(d, ED cI dk)])))) := hD
  refine lv_goto (tgt := 15) hx hb dL_bottles_9 (by decide) ?_
  refine lv_iconst (v := 0) hx hb dL_bottles_15 (by decide) ?_
  refine W.widen (k := 1) (n := 6) (Nat.le_of_ble_eq_true rfl) (Nat.le_of_ble_eq_true rfl) ?_
  exact W.iret hx hb hr (fun t9 ht9 hW => ⟨⟨_, OU ol od cL cD (vp_updL fl 0 (dk x9.toNatClampNeg).toInt64) fd ++ ([(x, EX r t d yg)] ++ (rowW r la bs cA (nI n) wm df q wd zs h ++ (w4 ++ [(d, ED cI dk)]))), rfl, Or.inl ⟨hok, rfl, rfl⟩, by rw [ht9]; exact hP, va_K.moved hW.alike hK, hD⟩, hS.F ht9⟩) hS.2.2 dL_bottles_16

set_option maxHeartbeats 4000000 in
set_option maxRecDepth 100000 in
theorem metL_litresIn (l : Launch) (hst : l.stackTraces = false) (D : va_G) (sz : Nat) (x r t d : Nat) (yg : Int32) (la : Nat) (bs : Nat → Nat) (cA cI : ClassId) (n : Nat) (hn : n ≤ 8) (wm df : Int32) (q : UInt64) (wd zs : Nat → Int32) (h : Nat → UInt64) (w3 : va_W) (ol od : Nat) (cL cD : ClassId) (fl : Nat → Int64) (fd : Nat → UInt64) (x9 : Int32)  : Met l yL_litresIn wsL_litresIn { frames := 8, cells := 1, slots := 6, locals := 124 } (Ph D [(cA, .object "VinegarLoft$Barrel"), (cI, .int), (cL, .long), (cD, .double)] [.ref x, .int x9, .ref od] (OU ol od cL cD fl fd ++ ([(x, EX r t d yg)] ++ (rowW r la bs cA (nI n) wm df q wd zs h ++ w3))) sz) (va_Qi (fun (r9 : Int32) (W9 : va_W) => ((¬ badI n x9) ∧ r9 = 0 ∧ W9 = OU ol od cL cD fl (vf_upd fd 0 (h (x9.toNatClampNeg))) ++ ([(x, EX r t d yg)] ++ (rowW r la bs cA (nI n) wm df q wd zs h ++ w3))) ∨ ((badI n x9) ∧ r9 = 1 ∧ W9 = OU ol od cL cD fl fd ++ ([(x, EX r t d yg)] ++ (rowW r la bs cA (nI n) wm df q wd zs h ++ w3)))) (Bh D [(cA, .object "VinegarLoft$Barrel"), (cI, .int), (cL, .long), (cD, .double)] (va_A (OU ol od cL cD fl fd ++ ([(x, EX r t d yg)] ++ (rowW r la bs cA (nI n) wm df q wd zs h ++ w3))) sz)) (va_A (OU ol od cL cD fl fd ++ ([(x, EX r t d yg)] ++ (rowW r la bs cA (nI n) wm df q wd zs h ++ w3))) sz)) 1 6 (va_A (OU ol od cL cD fl fd ++ ([(x, EX r t d yg)] ++ (rowW r la bs cA (nI n) wm df q wd zs h ++ w3))) sz) := by
  refine kMet_H (cc := cL_litresIn) (maxL := 4) (ret := (some .int)) (hh := [(0, 8, 11, 28)]) (by decide) rfl ?_
  intro p e s m args below meth c s₁ B hml htab hv
  obtain ⟨rfl, hsz, hP, hK, hD0, hX, hH⟩ := hv
  have hx := B.exec
  have hb := B.bytes
  have hr := B.returns
  have hts := atoms_spec (ws := wsL_litresIn) B.pre
  have hown : s.vm.findClass RL = some m.cls := findClass_of_methodNamed B.named
  have hlocks := B.notSynchronized
  subst hsz
  have hD := hD0.self (sz := s.heap.size)
  generalize hAe : va_A (OU ol od cL cD fl fd ++ ([(x, EX r t d yg)] ++ (rowW r la bs cA (nI n) wm df q wd zs h ++ w3))) s.heap.size = A at hD hX ⊢
  have hA : ∀ q : Nat, s.heap.size ≤ q → A q := fun q h => by rw [← hAe]; exact Or.inr h
  refine kW_H (fun H hH0 => ?_)
  have hP : va_P D vwCl (OU ol od cL cD fl fd ++ (([(x, EX r t d yg)] ++ (rowW r la bs cA (nI n) wm df q wd zs h ++ w3)) ++ [])) H := by rw [List.append_nil, hH0]; exact hP
  have hD : va_D A (OU ol od cL cD fl fd ++ (([(x, EX r t d yg)] ++ (rowW r la bs cA (nI n) wm df q wd zs h ++ w3)) ++ [])) := by rw [List.append_nil]; exact hD
  have hS : va_S A s.heap H [] := by rw [hH0]; exact va_S.rf
  have hl := lv_entry ([.ref x, .int x9, .ref od]) (n := 4) (Nat.le_of_ble_eq_true rfl)
  rw [lg_entry_eq]
  generalize (lg_sl ([.ref x, .int x9, .ref od]) ++ List.replicate (4 - (lg_sl ([.ref x, .int x9, .ref od])).length) Slot.unset).toArray = ls at hl ⊢
  have hl : lv_has ls 4 [(0, .ref x), (1, .int x9), (2, .ref od)] := hl
  refine lv_aload_n hx hb dL_litresIn_0 rfl (lv_at hl 2 rfl) ?_
  refine lv_iconst (v := 0) hx hb dL_litresIn_1 (by decide) ?_
  refine lv_aload_n hx hb dL_litresIn_2 rfl (lv_at hl 0 rfl) ?_
  refine lv_iload_n hx hb dL_litresIn_3 rfl (lv_at hl 1 rfl) ?_
  have hX9 : XP A s H := hX.kept hS.2.1
  have hA9 : ∀ q : Nat, H.size ≤ q → A q := fun q h9 => hA q (Nat.le_trans hS.1 h9)
  refine kq_d (w1 := OU ol od cL cD fl fd) (w2 := [(x, EX r t d yg)] ++ (rowW r la bs cA (nI n) wm df q wd zs h ++ w3)) (w3 := []) (vx_runV (As := [.int x9]) (rest := [.int 0, .ref od]) ⟨hx, hb, hml, hown, hts⟩ (metX2_litresIn l hst D H.size x r t d yg la bs cA cI n hn wm df q wd zs h w3 x9 ) (cwV 1 hts gL_litresIn_X2_litresIn rfl rfl rfl (by decide +kernel) ⟨Nat.le_of_ble_eq_true rfl, Nat.le_of_ble_eq_true rfl⟩) (ptV 2 0 RX2 TX2 4 rfl rfl (vj_mP hP) (hK.sub [0, 1] rfl) (vj_mD hD) hX9 hA9) rfl rfl hl.1 rfl (lv_room (Nat.le_of_ble_eq_true rfl)) dL_litresIn_4 ⟨Nat.le_of_ble_eq_true rfl, Nat.le_of_ble_eq_true rfl⟩) hP hD hS hA (fun E ce q9 H locs hB hP hD hS hce hcv hcl => ?_) (fun H locs hok hP hD hS => ?_)
  · obtain ⟨rfl, hbad⟩ := hB
    rw [List.append_nil] at hP hD
    refine vx_catch (own := RL) (name := xIOB) (E := xIOB) hown [] ⟨0, 8, 11, 28⟩ [] htab (fun z hz => absurd hz List.not_mem_nil) (by decide) (by decide) (hts (.classLink RL 28 xIOB) (by decide +kernel)) (hH.cast (w := .castable xIOB xIOB) (by decide)) hce hcv hcl ?_
    refine W.eq (g2 := F0 m 11 ls [.ref q9]) rfl ?_
    refine lv_astore_n (lv' := [(3, .ref q9), (0, .ref x), (1, .int x9), (2, .ref od)]) hx hb dL_litresIn_11 rfl hl (by decide) rfl (fun ls hl => ?_)
    refine lv_iconst (v := 1) hx hb dL_litresIn_12 (by decide) ?_
    refine W.widen (k := 1) (n := 6) (Nat.le_of_ble_eq_true rfl) (Nat.le_of_ble_eq_true rfl) ?_
    exact W.iret hx hb hr (fun t9 ht9 hW => ⟨⟨_, OU ol od cL cD fl fd ++ ([(x, EX r t d yg)] ++ (rowW r la bs cA (nI n) wm df q wd zs h ++ w3)), rfl, Or.inr (⟨hbad, rfl, rfl⟩), by rw [ht9]; exact hP, va_K.moved hW.alike hK, hD⟩, hS.F ht9⟩) hS.2.2 dL_litresIn_13
  rw [List.append_nil] at hP hD
  have hP : va_P D vwCl (OU ol od cL cD fl fd ++ ([(x, EX r t d yg)] ++ (rowW r la bs cA (nI n) wm df q wd zs h ++ w3))) H := hP
  have hD : va_D A (OU ol od cL cD fl fd ++ ([(x, EX r t d yg)] ++ (rowW r la bs cA (nI n) wm df q wd zs h ++ w3))) := hD
  refine va_dast hx hb hK hP hD hS 1 3 (f := fd) rfl rfl (i := 0) (vp_in_nI (n := 0) (N := 1) (by decide) (by decide)) dL_litresIn_7 (fun H locs hP hD hS => ?_)
  rw [cl_0] at hP hD
  have hP : va_P D vwCl (OU ol od cL cD fl (vf_upd fd 0 (h (x9.toNatClampNeg))) ++ ([(x, EX r t d yg)] ++ (rowW r la bs cA (nI n) wm df q wd zs h ++ w3))) H := hP
  have hD : va_D A (OU ol od cL cD fl (vf_upd fd 0 (h (x9.toNatClampNeg))) ++ ([(x, EX r t d yg)] ++ (rowW r la bs cA (nI n) wm df q wd zs h ++ w3))) := hD
  refine lv_goto (tgt := 14) hx hb dL_litresIn_8 (by decide) ?_
  refine lv_iconst (v := 0) hx hb dL_litresIn_14 (by decide) ?_
  refine W.widen (k := 1) (n := 6) (Nat.le_of_ble_eq_true rfl) (Nat.le_of_ble_eq_true rfl) ?_
  exact W.iret hx hb hr (fun t9 ht9 hW => ⟨⟨_, OU ol od cL cD fl (vf_upd fd 0 (h (x9.toNatClampNeg))) ++ ([(x, EX r t d yg)] ++ (rowW r la bs cA (nI n) wm df q wd zs h ++ w3)), rfl, Or.inl ⟨hok, rfl, rfl⟩, by rw [ht9]; exact hP, va_K.moved hW.alike hK, hD⟩, hS.F ht9⟩) hS.2.2 dL_litresIn_15

set_option maxHeartbeats 4000000 in
set_option maxRecDepth 100000 in
theorem metL_ageOf (l : Launch) (hst : l.stackTraces = false) (D : va_G) (sz : Nat) (x r t d : Nat) (yg : Int32) (la : Nat) (bs : Nat → Nat) (cA cI : ClassId) (n : Nat) (hn : n ≤ 8) (wm df : Int32) (q : UInt64) (wd zs : Nat → Int32) (h : Nat → UInt64) (w3 : va_W) (ol od : Nat) (cL cD : ClassId) (fl : Nat → Int64) (fd : Nat → UInt64) (x9 : Int32)  : Met l yL_ageOf wsL_ageOf { frames := 8, cells := 1, slots := 6, locals := 124 } (Ph D [(cA, .object "VinegarLoft$Barrel"), (cI, .int), (cL, .long), (cD, .double)] [.ref x, .int x9, .ref od] (OU ol od cL cD fl fd ++ ([(x, EX r t d yg)] ++ (rowW r la bs cA (nI n) wm df q wd zs h ++ w3))) sz) (va_Qi (fun (r9 : Int32) (W9 : va_W) => ((¬ badI n x9) ∧ r9 = 0 ∧ W9 = OU ol od cL cD fl (vf_upd fd 0 (h (8 + x9.toNatClampNeg))) ++ ([(x, EX r t d yg)] ++ (rowW r la bs cA (nI n) wm df q wd zs h ++ w3))) ∨ ((badI n x9) ∧ r9 = 1 ∧ W9 = OU ol od cL cD fl fd ++ ([(x, EX r t d yg)] ++ (rowW r la bs cA (nI n) wm df q wd zs h ++ w3)))) (Bh D [(cA, .object "VinegarLoft$Barrel"), (cI, .int), (cL, .long), (cD, .double)] (va_A (OU ol od cL cD fl fd ++ ([(x, EX r t d yg)] ++ (rowW r la bs cA (nI n) wm df q wd zs h ++ w3))) sz)) (va_A (OU ol od cL cD fl fd ++ ([(x, EX r t d yg)] ++ (rowW r la bs cA (nI n) wm df q wd zs h ++ w3))) sz)) 1 6 (va_A (OU ol od cL cD fl fd ++ ([(x, EX r t d yg)] ++ (rowW r la bs cA (nI n) wm df q wd zs h ++ w3))) sz) := by
  refine kMet_H (cc := cL_ageOf) (maxL := 4) (ret := (some .int)) (hh := [(0, 8, 11, 28)]) (by decide) rfl ?_
  intro p e s m args below meth c s₁ B hml htab hv
  obtain ⟨rfl, hsz, hP, hK, hD0, hX, hH⟩ := hv
  have hx := B.exec
  have hb := B.bytes
  have hr := B.returns
  have hts := atoms_spec (ws := wsL_ageOf) B.pre
  have hown : s.vm.findClass RL = some m.cls := findClass_of_methodNamed B.named
  have hlocks := B.notSynchronized
  subst hsz
  have hD := hD0.self (sz := s.heap.size)
  generalize hAe : va_A (OU ol od cL cD fl fd ++ ([(x, EX r t d yg)] ++ (rowW r la bs cA (nI n) wm df q wd zs h ++ w3))) s.heap.size = A at hD hX ⊢
  have hA : ∀ q : Nat, s.heap.size ≤ q → A q := fun q h => by rw [← hAe]; exact Or.inr h
  refine kW_H (fun H hH0 => ?_)
  have hP : va_P D vwCl (OU ol od cL cD fl fd ++ (([(x, EX r t d yg)] ++ (rowW r la bs cA (nI n) wm df q wd zs h ++ w3)) ++ [])) H := by rw [List.append_nil, hH0]; exact hP
  have hD : va_D A (OU ol od cL cD fl fd ++ (([(x, EX r t d yg)] ++ (rowW r la bs cA (nI n) wm df q wd zs h ++ w3)) ++ [])) := by rw [List.append_nil]; exact hD
  have hS : va_S A s.heap H [] := by rw [hH0]; exact va_S.rf
  have hl := lv_entry ([.ref x, .int x9, .ref od]) (n := 4) (Nat.le_of_ble_eq_true rfl)
  rw [lg_entry_eq]
  generalize (lg_sl ([.ref x, .int x9, .ref od]) ++ List.replicate (4 - (lg_sl ([.ref x, .int x9, .ref od])).length) Slot.unset).toArray = ls at hl ⊢
  have hl : lv_has ls 4 [(0, .ref x), (1, .int x9), (2, .ref od)] := hl
  refine lv_aload_n hx hb dL_ageOf_0 rfl (lv_at hl 2 rfl) ?_
  refine lv_iconst (v := 0) hx hb dL_ageOf_1 (by decide) ?_
  refine lv_aload_n hx hb dL_ageOf_2 rfl (lv_at hl 0 rfl) ?_
  refine lv_iload_n hx hb dL_ageOf_3 rfl (lv_at hl 1 rfl) ?_
  have hX9 : XP A s H := hX.kept hS.2.1
  have hA9 : ∀ q : Nat, H.size ≤ q → A q := fun q h9 => hA q (Nat.le_trans hS.1 h9)
  refine kq_d (w1 := OU ol od cL cD fl fd) (w2 := [(x, EX r t d yg)] ++ (rowW r la bs cA (nI n) wm df q wd zs h ++ w3)) (w3 := []) (vx_runV (As := [.int x9]) (rest := [.int 0, .ref od]) ⟨hx, hb, hml, hown, hts⟩ (metX2_ageOf l hst D H.size x r t d yg la bs cA cI n hn wm df q wd zs h w3 x9 ) (cwV 1 hts gL_ageOf_X2_ageOf rfl rfl rfl (by decide +kernel) ⟨Nat.le_of_ble_eq_true rfl, Nat.le_of_ble_eq_true rfl⟩) (ptV 2 0 RX2 TX2 4 rfl rfl (vj_mP hP) (hK.sub [0, 1] rfl) (vj_mD hD) hX9 hA9) rfl rfl hl.1 rfl (lv_room (Nat.le_of_ble_eq_true rfl)) dL_ageOf_4 ⟨Nat.le_of_ble_eq_true rfl, Nat.le_of_ble_eq_true rfl⟩) hP hD hS hA (fun E ce q9 H locs hB hP hD hS hce hcv hcl => ?_) (fun H locs hok hP hD hS => ?_)
  · obtain ⟨rfl, hbad⟩ := hB
    rw [List.append_nil] at hP hD
    refine vx_catch (own := RL) (name := xIOB) (E := xIOB) hown [] ⟨0, 8, 11, 28⟩ [] htab (fun z hz => absurd hz List.not_mem_nil) (by decide) (by decide) (hts (.classLink RL 28 xIOB) (by decide +kernel)) (hH.cast (w := .castable xIOB xIOB) (by decide)) hce hcv hcl ?_
    refine W.eq (g2 := F0 m 11 ls [.ref q9]) rfl ?_
    refine lv_astore_n (lv' := [(3, .ref q9), (0, .ref x), (1, .int x9), (2, .ref od)]) hx hb dL_ageOf_11 rfl hl (by decide) rfl (fun ls hl => ?_)
    refine lv_iconst (v := 1) hx hb dL_ageOf_12 (by decide) ?_
    refine W.widen (k := 1) (n := 6) (Nat.le_of_ble_eq_true rfl) (Nat.le_of_ble_eq_true rfl) ?_
    exact W.iret hx hb hr (fun t9 ht9 hW => ⟨⟨_, OU ol od cL cD fl fd ++ ([(x, EX r t d yg)] ++ (rowW r la bs cA (nI n) wm df q wd zs h ++ w3)), rfl, Or.inr (⟨hbad, rfl, rfl⟩), by rw [ht9]; exact hP, va_K.moved hW.alike hK, hD⟩, hS.F ht9⟩) hS.2.2 dL_ageOf_13
  rw [List.append_nil] at hP hD
  have hP : va_P D vwCl (OU ol od cL cD fl fd ++ ([(x, EX r t d yg)] ++ (rowW r la bs cA (nI n) wm df q wd zs h ++ w3))) H := hP
  have hD : va_D A (OU ol od cL cD fl fd ++ ([(x, EX r t d yg)] ++ (rowW r la bs cA (nI n) wm df q wd zs h ++ w3))) := hD
  refine va_dast hx hb hK hP hD hS 1 3 (f := fd) rfl rfl (i := 0) (vp_in_nI (n := 0) (N := 1) (by decide) (by decide)) dL_ageOf_7 (fun H locs hP hD hS => ?_)
  rw [cl_0] at hP hD
  have hP : va_P D vwCl (OU ol od cL cD fl (vf_upd fd 0 (h (8 + x9.toNatClampNeg))) ++ ([(x, EX r t d yg)] ++ (rowW r la bs cA (nI n) wm df q wd zs h ++ w3))) H := hP
  have hD : va_D A (OU ol od cL cD fl (vf_upd fd 0 (h (8 + x9.toNatClampNeg))) ++ ([(x, EX r t d yg)] ++ (rowW r la bs cA (nI n) wm df q wd zs h ++ w3))) := hD
  refine lv_goto (tgt := 14) hx hb dL_ageOf_8 (by decide) ?_
  refine lv_iconst (v := 0) hx hb dL_ageOf_14 (by decide) ?_
  refine W.widen (k := 1) (n := 6) (Nat.le_of_ble_eq_true rfl) (Nat.le_of_ble_eq_true rfl) ?_
  exact W.iret hx hb hr (fun t9 ht9 hW => ⟨⟨_, OU ol od cL cD fl (vf_upd fd 0 (h (8 + x9.toNatClampNeg))) ++ ([(x, EX r t d yg)] ++ (rowW r la bs cA (nI n) wm df q wd zs h ++ w3)), rfl, Or.inl ⟨hok, rfl, rfl⟩, by rw [ht9]; exact hP, va_K.moved hW.alike hK, hD⟩, hS.F ht9⟩) hS.2.2 dL_ageOf_15

set_option maxHeartbeats 4000000 in
set_option maxRecDepth 100000 in
theorem metL_acidOf (l : Launch) (hst : l.stackTraces = false) (D : va_G) (sz : Nat) (x r t d : Nat) (yg : Int32) (la : Nat) (bs : Nat → Nat) (cA cI : ClassId) (n : Nat) (hn : n ≤ 8) (wm df : Int32) (q : UInt64) (wd zs : Nat → Int32) (h : Nat → UInt64) (w3 : va_W) (ol od : Nat) (cL cD : ClassId) (fl : Nat → Int64) (fd : Nat → UInt64) (x9 : Int32)  : Met l yL_acidOf wsL_acidOf { frames := 8, cells := 1, slots := 6, locals := 124 } (Ph D [(cA, .object "VinegarLoft$Barrel"), (cI, .int), (cL, .long), (cD, .double)] [.ref x, .int x9, .ref od] (OU ol od cL cD fl fd ++ ([(x, EX r t d yg)] ++ (rowW r la bs cA (nI n) wm df q wd zs h ++ w3))) sz) (va_Qi (fun (r9 : Int32) (W9 : va_W) => ((¬ badI n x9) ∧ r9 = 0 ∧ W9 = OU ol od cL cD fl (vf_upd fd 0 (h (16 + x9.toNatClampNeg))) ++ ([(x, EX r t d yg)] ++ (rowW r la bs cA (nI n) wm df q wd zs h ++ w3))) ∨ ((badI n x9) ∧ r9 = 1 ∧ W9 = OU ol od cL cD fl fd ++ ([(x, EX r t d yg)] ++ (rowW r la bs cA (nI n) wm df q wd zs h ++ w3)))) (Bh D [(cA, .object "VinegarLoft$Barrel"), (cI, .int), (cL, .long), (cD, .double)] (va_A (OU ol od cL cD fl fd ++ ([(x, EX r t d yg)] ++ (rowW r la bs cA (nI n) wm df q wd zs h ++ w3))) sz)) (va_A (OU ol od cL cD fl fd ++ ([(x, EX r t d yg)] ++ (rowW r la bs cA (nI n) wm df q wd zs h ++ w3))) sz)) 1 6 (va_A (OU ol od cL cD fl fd ++ ([(x, EX r t d yg)] ++ (rowW r la bs cA (nI n) wm df q wd zs h ++ w3))) sz) := by
  refine kMet_H (cc := cL_acidOf) (maxL := 4) (ret := (some .int)) (hh := [(0, 8, 11, 28)]) (by decide) rfl ?_
  intro p e s m args below meth c s₁ B hml htab hv
  obtain ⟨rfl, hsz, hP, hK, hD0, hX, hH⟩ := hv
  have hx := B.exec
  have hb := B.bytes
  have hr := B.returns
  have hts := atoms_spec (ws := wsL_acidOf) B.pre
  have hown : s.vm.findClass RL = some m.cls := findClass_of_methodNamed B.named
  have hlocks := B.notSynchronized
  subst hsz
  have hD := hD0.self (sz := s.heap.size)
  generalize hAe : va_A (OU ol od cL cD fl fd ++ ([(x, EX r t d yg)] ++ (rowW r la bs cA (nI n) wm df q wd zs h ++ w3))) s.heap.size = A at hD hX ⊢
  have hA : ∀ q : Nat, s.heap.size ≤ q → A q := fun q h => by rw [← hAe]; exact Or.inr h
  refine kW_H (fun H hH0 => ?_)
  have hP : va_P D vwCl (OU ol od cL cD fl fd ++ (([(x, EX r t d yg)] ++ (rowW r la bs cA (nI n) wm df q wd zs h ++ w3)) ++ [])) H := by rw [List.append_nil, hH0]; exact hP
  have hD : va_D A (OU ol od cL cD fl fd ++ (([(x, EX r t d yg)] ++ (rowW r la bs cA (nI n) wm df q wd zs h ++ w3)) ++ [])) := by rw [List.append_nil]; exact hD
  have hS : va_S A s.heap H [] := by rw [hH0]; exact va_S.rf
  have hl := lv_entry ([.ref x, .int x9, .ref od]) (n := 4) (Nat.le_of_ble_eq_true rfl)
  rw [lg_entry_eq]
  generalize (lg_sl ([.ref x, .int x9, .ref od]) ++ List.replicate (4 - (lg_sl ([.ref x, .int x9, .ref od])).length) Slot.unset).toArray = ls at hl ⊢
  have hl : lv_has ls 4 [(0, .ref x), (1, .int x9), (2, .ref od)] := hl
  refine lv_aload_n hx hb dL_acidOf_0 rfl (lv_at hl 2 rfl) ?_
  refine lv_iconst (v := 0) hx hb dL_acidOf_1 (by decide) ?_
  refine lv_aload_n hx hb dL_acidOf_2 rfl (lv_at hl 0 rfl) ?_
  refine lv_iload_n hx hb dL_acidOf_3 rfl (lv_at hl 1 rfl) ?_
  have hX9 : XP A s H := hX.kept hS.2.1
  have hA9 : ∀ q : Nat, H.size ≤ q → A q := fun q h9 => hA q (Nat.le_trans hS.1 h9)
  refine kq_d (w1 := OU ol od cL cD fl fd) (w2 := [(x, EX r t d yg)] ++ (rowW r la bs cA (nI n) wm df q wd zs h ++ w3)) (w3 := []) (vx_runV (As := [.int x9]) (rest := [.int 0, .ref od]) ⟨hx, hb, hml, hown, hts⟩ (metX2_acidOf l hst D H.size x r t d yg la bs cA cI n hn wm df q wd zs h w3 x9 ) (cwV 1 hts gL_acidOf_X2_acidOf rfl rfl rfl (by decide +kernel) ⟨Nat.le_of_ble_eq_true rfl, Nat.le_of_ble_eq_true rfl⟩) (ptV 2 0 RX2 TX2 4 rfl rfl (vj_mP hP) (hK.sub [0, 1] rfl) (vj_mD hD) hX9 hA9) rfl rfl hl.1 rfl (lv_room (Nat.le_of_ble_eq_true rfl)) dL_acidOf_4 ⟨Nat.le_of_ble_eq_true rfl, Nat.le_of_ble_eq_true rfl⟩) hP hD hS hA (fun E ce q9 H locs hB hP hD hS hce hcv hcl => ?_) (fun H locs hok hP hD hS => ?_)
  · obtain ⟨rfl, hbad⟩ := hB
    rw [List.append_nil] at hP hD
    refine vx_catch (own := RL) (name := xIOB) (E := xIOB) hown [] ⟨0, 8, 11, 28⟩ [] htab (fun z hz => absurd hz List.not_mem_nil) (by decide) (by decide) (hts (.classLink RL 28 xIOB) (by decide +kernel)) (hH.cast (w := .castable xIOB xIOB) (by decide)) hce hcv hcl ?_
    refine W.eq (g2 := F0 m 11 ls [.ref q9]) rfl ?_
    refine lv_astore_n (lv' := [(3, .ref q9), (0, .ref x), (1, .int x9), (2, .ref od)]) hx hb dL_acidOf_11 rfl hl (by decide) rfl (fun ls hl => ?_)
    refine lv_iconst (v := 1) hx hb dL_acidOf_12 (by decide) ?_
    refine W.widen (k := 1) (n := 6) (Nat.le_of_ble_eq_true rfl) (Nat.le_of_ble_eq_true rfl) ?_
    exact W.iret hx hb hr (fun t9 ht9 hW => ⟨⟨_, OU ol od cL cD fl fd ++ ([(x, EX r t d yg)] ++ (rowW r la bs cA (nI n) wm df q wd zs h ++ w3)), rfl, Or.inr (⟨hbad, rfl, rfl⟩), by rw [ht9]; exact hP, va_K.moved hW.alike hK, hD⟩, hS.F ht9⟩) hS.2.2 dL_acidOf_13
  rw [List.append_nil] at hP hD
  have hP : va_P D vwCl (OU ol od cL cD fl fd ++ ([(x, EX r t d yg)] ++ (rowW r la bs cA (nI n) wm df q wd zs h ++ w3))) H := hP
  have hD : va_D A (OU ol od cL cD fl fd ++ ([(x, EX r t d yg)] ++ (rowW r la bs cA (nI n) wm df q wd zs h ++ w3))) := hD
  refine va_dast hx hb hK hP hD hS 1 3 (f := fd) rfl rfl (i := 0) (vp_in_nI (n := 0) (N := 1) (by decide) (by decide)) dL_acidOf_7 (fun H locs hP hD hS => ?_)
  rw [cl_0] at hP hD
  have hP : va_P D vwCl (OU ol od cL cD fl (vf_upd fd 0 (h (16 + x9.toNatClampNeg))) ++ ([(x, EX r t d yg)] ++ (rowW r la bs cA (nI n) wm df q wd zs h ++ w3))) H := hP
  have hD : va_D A (OU ol od cL cD fl (vf_upd fd 0 (h (16 + x9.toNatClampNeg))) ++ ([(x, EX r t d yg)] ++ (rowW r la bs cA (nI n) wm df q wd zs h ++ w3))) := hD
  refine lv_goto (tgt := 14) hx hb dL_acidOf_8 (by decide) ?_
  refine lv_iconst (v := 0) hx hb dL_acidOf_14 (by decide) ?_
  refine W.widen (k := 1) (n := 6) (Nat.le_of_ble_eq_true rfl) (Nat.le_of_ble_eq_true rfl) ?_
  exact W.iret hx hb hr (fun t9 ht9 hW => ⟨⟨_, OU ol od cL cD fl (vf_upd fd 0 (h (16 + x9.toNatClampNeg))) ++ ([(x, EX r t d yg)] ++ (rowW r la bs cA (nI n) wm df q wd zs h ++ w3)), rfl, Or.inl ⟨hok, rfl, rfl⟩, by rw [ht9]; exact hP, va_K.moved hW.alike hK, hD⟩, hS.F ht9⟩) hS.2.2 dL_acidOf_15

set_option maxHeartbeats 4000000 in
set_option maxRecDepth 100000 in
theorem metL_sugarOf (l : Launch) (hst : l.stackTraces = false) (D : va_G) (sz : Nat) (x r t d : Nat) (yg : Int32) (la : Nat) (bs : Nat → Nat) (cA cI : ClassId) (n : Nat) (hn : n ≤ 8) (wm df : Int32) (q : UInt64) (wd zs : Nat → Int32) (h : Nat → UInt64) (w3 : va_W) (ol od : Nat) (cL cD : ClassId) (fl : Nat → Int64) (fd : Nat → UInt64) (x9 : Int32)  : Met l yL_sugarOf wsL_sugarOf { frames := 8, cells := 1, slots := 6, locals := 124 } (Ph D [(cA, .object "VinegarLoft$Barrel"), (cI, .int), (cL, .long), (cD, .double)] [.ref x, .int x9, .ref od] (OU ol od cL cD fl fd ++ ([(x, EX r t d yg)] ++ (rowW r la bs cA (nI n) wm df q wd zs h ++ w3))) sz) (va_Qi (fun (r9 : Int32) (W9 : va_W) => ((¬ badI n x9) ∧ r9 = 0 ∧ W9 = OU ol od cL cD fl (vf_upd fd 0 (h (24 + x9.toNatClampNeg))) ++ ([(x, EX r t d yg)] ++ (rowW r la bs cA (nI n) wm df q wd zs h ++ w3))) ∨ ((badI n x9) ∧ r9 = 1 ∧ W9 = OU ol od cL cD fl fd ++ ([(x, EX r t d yg)] ++ (rowW r la bs cA (nI n) wm df q wd zs h ++ w3)))) (Bh D [(cA, .object "VinegarLoft$Barrel"), (cI, .int), (cL, .long), (cD, .double)] (va_A (OU ol od cL cD fl fd ++ ([(x, EX r t d yg)] ++ (rowW r la bs cA (nI n) wm df q wd zs h ++ w3))) sz)) (va_A (OU ol od cL cD fl fd ++ ([(x, EX r t d yg)] ++ (rowW r la bs cA (nI n) wm df q wd zs h ++ w3))) sz)) 1 6 (va_A (OU ol od cL cD fl fd ++ ([(x, EX r t d yg)] ++ (rowW r la bs cA (nI n) wm df q wd zs h ++ w3))) sz) := by
  refine kMet_H (cc := cL_sugarOf) (maxL := 4) (ret := (some .int)) (hh := [(0, 8, 11, 28)]) (by decide) rfl ?_
  intro p e s m args below meth c s₁ B hml htab hv
  obtain ⟨rfl, hsz, hP, hK, hD0, hX, hH⟩ := hv
  have hx := B.exec
  have hb := B.bytes
  have hr := B.returns
  have hts := atoms_spec (ws := wsL_sugarOf) B.pre
  have hown : s.vm.findClass RL = some m.cls := findClass_of_methodNamed B.named
  have hlocks := B.notSynchronized
  subst hsz
  have hD := hD0.self (sz := s.heap.size)
  generalize hAe : va_A (OU ol od cL cD fl fd ++ ([(x, EX r t d yg)] ++ (rowW r la bs cA (nI n) wm df q wd zs h ++ w3))) s.heap.size = A at hD hX ⊢
  have hA : ∀ q : Nat, s.heap.size ≤ q → A q := fun q h => by rw [← hAe]; exact Or.inr h
  refine kW_H (fun H hH0 => ?_)
  have hP : va_P D vwCl (OU ol od cL cD fl fd ++ (([(x, EX r t d yg)] ++ (rowW r la bs cA (nI n) wm df q wd zs h ++ w3)) ++ [])) H := by rw [List.append_nil, hH0]; exact hP
  have hD : va_D A (OU ol od cL cD fl fd ++ (([(x, EX r t d yg)] ++ (rowW r la bs cA (nI n) wm df q wd zs h ++ w3)) ++ [])) := by rw [List.append_nil]; exact hD
  have hS : va_S A s.heap H [] := by rw [hH0]; exact va_S.rf
  have hl := lv_entry ([.ref x, .int x9, .ref od]) (n := 4) (Nat.le_of_ble_eq_true rfl)
  rw [lg_entry_eq]
  generalize (lg_sl ([.ref x, .int x9, .ref od]) ++ List.replicate (4 - (lg_sl ([.ref x, .int x9, .ref od])).length) Slot.unset).toArray = ls at hl ⊢
  have hl : lv_has ls 4 [(0, .ref x), (1, .int x9), (2, .ref od)] := hl
  refine lv_aload_n hx hb dL_sugarOf_0 rfl (lv_at hl 2 rfl) ?_
  refine lv_iconst (v := 0) hx hb dL_sugarOf_1 (by decide) ?_
  refine lv_aload_n hx hb dL_sugarOf_2 rfl (lv_at hl 0 rfl) ?_
  refine lv_iload_n hx hb dL_sugarOf_3 rfl (lv_at hl 1 rfl) ?_
  have hX9 : XP A s H := hX.kept hS.2.1
  have hA9 : ∀ q : Nat, H.size ≤ q → A q := fun q h9 => hA q (Nat.le_trans hS.1 h9)
  refine kq_d (w1 := OU ol od cL cD fl fd) (w2 := [(x, EX r t d yg)] ++ (rowW r la bs cA (nI n) wm df q wd zs h ++ w3)) (w3 := []) (vx_runV (As := [.int x9]) (rest := [.int 0, .ref od]) ⟨hx, hb, hml, hown, hts⟩ (metX2_sugarOf l hst D H.size x r t d yg la bs cA cI n hn wm df q wd zs h w3 x9 ) (cwV 1 hts gL_sugarOf_X2_sugarOf rfl rfl rfl (by decide +kernel) ⟨Nat.le_of_ble_eq_true rfl, Nat.le_of_ble_eq_true rfl⟩) (ptV 2 0 RX2 TX2 4 rfl rfl (vj_mP hP) (hK.sub [0, 1] rfl) (vj_mD hD) hX9 hA9) rfl rfl hl.1 rfl (lv_room (Nat.le_of_ble_eq_true rfl)) dL_sugarOf_4 ⟨Nat.le_of_ble_eq_true rfl, Nat.le_of_ble_eq_true rfl⟩) hP hD hS hA (fun E ce q9 H locs hB hP hD hS hce hcv hcl => ?_) (fun H locs hok hP hD hS => ?_)
  · obtain ⟨rfl, hbad⟩ := hB
    rw [List.append_nil] at hP hD
    refine vx_catch (own := RL) (name := xIOB) (E := xIOB) hown [] ⟨0, 8, 11, 28⟩ [] htab (fun z hz => absurd hz List.not_mem_nil) (by decide) (by decide) (hts (.classLink RL 28 xIOB) (by decide +kernel)) (hH.cast (w := .castable xIOB xIOB) (by decide)) hce hcv hcl ?_
    refine W.eq (g2 := F0 m 11 ls [.ref q9]) rfl ?_
    refine lv_astore_n (lv' := [(3, .ref q9), (0, .ref x), (1, .int x9), (2, .ref od)]) hx hb dL_sugarOf_11 rfl hl (by decide) rfl (fun ls hl => ?_)
    refine lv_iconst (v := 1) hx hb dL_sugarOf_12 (by decide) ?_
    refine W.widen (k := 1) (n := 6) (Nat.le_of_ble_eq_true rfl) (Nat.le_of_ble_eq_true rfl) ?_
    exact W.iret hx hb hr (fun t9 ht9 hW => ⟨⟨_, OU ol od cL cD fl fd ++ ([(x, EX r t d yg)] ++ (rowW r la bs cA (nI n) wm df q wd zs h ++ w3)), rfl, Or.inr (⟨hbad, rfl, rfl⟩), by rw [ht9]; exact hP, va_K.moved hW.alike hK, hD⟩, hS.F ht9⟩) hS.2.2 dL_sugarOf_13
  rw [List.append_nil] at hP hD
  have hP : va_P D vwCl (OU ol od cL cD fl fd ++ ([(x, EX r t d yg)] ++ (rowW r la bs cA (nI n) wm df q wd zs h ++ w3))) H := hP
  have hD : va_D A (OU ol od cL cD fl fd ++ ([(x, EX r t d yg)] ++ (rowW r la bs cA (nI n) wm df q wd zs h ++ w3))) := hD
  refine va_dast hx hb hK hP hD hS 1 3 (f := fd) rfl rfl (i := 0) (vp_in_nI (n := 0) (N := 1) (by decide) (by decide)) dL_sugarOf_7 (fun H locs hP hD hS => ?_)
  rw [cl_0] at hP hD
  have hP : va_P D vwCl (OU ol od cL cD fl (vf_upd fd 0 (h (24 + x9.toNatClampNeg))) ++ ([(x, EX r t d yg)] ++ (rowW r la bs cA (nI n) wm df q wd zs h ++ w3))) H := hP
  have hD : va_D A (OU ol od cL cD fl (vf_upd fd 0 (h (24 + x9.toNatClampNeg))) ++ ([(x, EX r t d yg)] ++ (rowW r la bs cA (nI n) wm df q wd zs h ++ w3))) := hD
  refine lv_goto (tgt := 14) hx hb dL_sugarOf_8 (by decide) ?_
  refine lv_iconst (v := 0) hx hb dL_sugarOf_14 (by decide) ?_
  refine W.widen (k := 1) (n := 6) (Nat.le_of_ble_eq_true rfl) (Nat.le_of_ble_eq_true rfl) ?_
  exact W.iret hx hb hr (fun t9 ht9 hW => ⟨⟨_, OU ol od cL cD fl (vf_upd fd 0 (h (24 + x9.toNatClampNeg))) ++ ([(x, EX r t d yg)] ++ (rowW r la bs cA (nI n) wm df q wd zs h ++ w3)), rfl, Or.inl ⟨hok, rfl, rfl⟩, by rw [ht9]; exact hP, va_K.moved hW.alike hK, hD⟩, hS.F ht9⟩) hS.2.2 dL_sugarOf_15

set_option maxHeartbeats 4000000 in
set_option maxRecDepth 100000 in
theorem metL_tasteOf (l : Launch) (hst : l.stackTraces = false) (D : va_G) (sz : Nat) (x r t d : Nat) (yg : Int32) (la : Nat) (bs : Nat → Nat) (cA cI : ClassId) (n : Nat) (hn : n ≤ 8) (wm df : Int32) (q : UInt64) (wd zs : Nat → Int32) (h : Nat → UInt64) (w3 : va_W) (ol od : Nat) (cL cD : ClassId) (fl : Nat → Int64) (fd : Nat → UInt64) (x9 : Int32) (hT : ∀ j, j < n → FP.dcmp (h j) 0 ≠ none ∧ (FP.dcmp (h j) 0 = some .gt → tasok (h (8 + j)) (h (16 + j)) (h (24 + j)))) : Met l yL_tasteOf wsL_tasteOf { frames := 8, cells := 1, slots := 6, locals := 124 } (Ph D [(cA, .object "VinegarLoft$Barrel"), (cI, .int), (cL, .long), (cD, .double)] [.ref x, .int x9, .ref od] (OU ol od cL cD fl fd ++ ([(x, EX r t d yg)] ++ (rowW r la bs cA (nI n) wm df q wd zs h ++ w3))) sz) (va_Qi (fun (r9 : Int32) (W9 : va_W) => ((¬ badI n x9) ∧ r9 = 0 ∧ W9 = OU ol od cL cD fl (vf_upd fd 0 (let j := x9.toNatClampNeg; tasv (h j) (h (8 + j)) (h (16 + j)) (h (24 + j)))) ++ ([(x, EX r t d yg)] ++ (rowW r la bs cA (nI n) wm df q wd zs h ++ w3))) ∨ ((badI n x9) ∧ r9 = 1 ∧ W9 = OU ol od cL cD fl fd ++ ([(x, EX r t d yg)] ++ (rowW r la bs cA (nI n) wm df q wd zs h ++ w3)))) (Bh D [(cA, .object "VinegarLoft$Barrel"), (cI, .int), (cL, .long), (cD, .double)] (va_A (OU ol od cL cD fl fd ++ ([(x, EX r t d yg)] ++ (rowW r la bs cA (nI n) wm df q wd zs h ++ w3))) sz)) (va_A (OU ol od cL cD fl fd ++ ([(x, EX r t d yg)] ++ (rowW r la bs cA (nI n) wm df q wd zs h ++ w3))) sz)) 1 6 (va_A (OU ol od cL cD fl fd ++ ([(x, EX r t d yg)] ++ (rowW r la bs cA (nI n) wm df q wd zs h ++ w3))) sz) := by
  refine kMet_H (cc := cL_tasteOf) (maxL := 4) (ret := (some .int)) (hh := [(0, 8, 11, 28)]) (by decide) rfl ?_
  intro p e s m args below meth c s₁ B hml htab hv
  obtain ⟨rfl, hsz, hP, hK, hD0, hX, hH⟩ := hv
  have hx := B.exec
  have hb := B.bytes
  have hr := B.returns
  have hts := atoms_spec (ws := wsL_tasteOf) B.pre
  have hown : s.vm.findClass RL = some m.cls := findClass_of_methodNamed B.named
  have hlocks := B.notSynchronized
  subst hsz
  have hD := hD0.self (sz := s.heap.size)
  generalize hAe : va_A (OU ol od cL cD fl fd ++ ([(x, EX r t d yg)] ++ (rowW r la bs cA (nI n) wm df q wd zs h ++ w3))) s.heap.size = A at hD hX ⊢
  have hA : ∀ q : Nat, s.heap.size ≤ q → A q := fun q h => by rw [← hAe]; exact Or.inr h
  refine kW_H (fun H hH0 => ?_)
  have hP : va_P D vwCl (OU ol od cL cD fl fd ++ (([(x, EX r t d yg)] ++ (rowW r la bs cA (nI n) wm df q wd zs h ++ w3)) ++ [])) H := by rw [List.append_nil, hH0]; exact hP
  have hD : va_D A (OU ol od cL cD fl fd ++ (([(x, EX r t d yg)] ++ (rowW r la bs cA (nI n) wm df q wd zs h ++ w3)) ++ [])) := by rw [List.append_nil]; exact hD
  have hS : va_S A s.heap H [] := by rw [hH0]; exact va_S.rf
  have hl := lv_entry ([.ref x, .int x9, .ref od]) (n := 4) (Nat.le_of_ble_eq_true rfl)
  rw [lg_entry_eq]
  generalize (lg_sl ([.ref x, .int x9, .ref od]) ++ List.replicate (4 - (lg_sl ([.ref x, .int x9, .ref od])).length) Slot.unset).toArray = ls at hl ⊢
  have hl : lv_has ls 4 [(0, .ref x), (1, .int x9), (2, .ref od)] := hl
  refine lv_aload_n hx hb dL_tasteOf_0 rfl (lv_at hl 2 rfl) ?_
  refine lv_iconst (v := 0) hx hb dL_tasteOf_1 (by decide) ?_
  refine lv_aload_n hx hb dL_tasteOf_2 rfl (lv_at hl 0 rfl) ?_
  refine lv_iload_n hx hb dL_tasteOf_3 rfl (lv_at hl 1 rfl) ?_
  have hX9 : XP A s H := hX.kept hS.2.1
  have hA9 : ∀ q : Nat, H.size ≤ q → A q := fun q h9 => hA q (Nat.le_trans hS.1 h9)
  refine kq_d (w1 := OU ol od cL cD fl fd) (w2 := [(x, EX r t d yg)] ++ (rowW r la bs cA (nI n) wm df q wd zs h ++ w3)) (w3 := []) (vx_runV (As := [.int x9]) (rest := [.int 0, .ref od]) ⟨hx, hb, hml, hown, hts⟩ (metX2_tasteOf l hst D H.size x r t d yg la bs cA cI n hn wm df q wd zs h w3 x9 hT) (cwV 1 hts gL_tasteOf_X2_tasteOf rfl rfl rfl (by decide +kernel) ⟨Nat.le_of_ble_eq_true rfl, Nat.le_of_ble_eq_true rfl⟩) (ptV 2 0 RX2 TX2 4 rfl rfl (vj_mP hP) (hK.sub [0, 1] rfl) (vj_mD hD) hX9 hA9) rfl rfl hl.1 rfl (lv_room (Nat.le_of_ble_eq_true rfl)) dL_tasteOf_4 ⟨Nat.le_of_ble_eq_true rfl, Nat.le_of_ble_eq_true rfl⟩) hP hD hS hA (fun E ce q9 H locs hB hP hD hS hce hcv hcl => ?_) (fun H locs hok hP hD hS => ?_)
  · obtain ⟨rfl, hbad⟩ := hB
    rw [List.append_nil] at hP hD
    refine vx_catch (own := RL) (name := xIOB) (E := xIOB) hown [] ⟨0, 8, 11, 28⟩ [] htab (fun z hz => absurd hz List.not_mem_nil) (by decide) (by decide) (hts (.classLink RL 28 xIOB) (by decide +kernel)) (hH.cast (w := .castable xIOB xIOB) (by decide)) hce hcv hcl ?_
    refine W.eq (g2 := F0 m 11 ls [.ref q9]) rfl ?_
    refine lv_astore_n (lv' := [(3, .ref q9), (0, .ref x), (1, .int x9), (2, .ref od)]) hx hb dL_tasteOf_11 rfl hl (by decide) rfl (fun ls hl => ?_)
    refine lv_iconst (v := 1) hx hb dL_tasteOf_12 (by decide) ?_
    refine W.widen (k := 1) (n := 6) (Nat.le_of_ble_eq_true rfl) (Nat.le_of_ble_eq_true rfl) ?_
    exact W.iret hx hb hr (fun t9 ht9 hW => ⟨⟨_, OU ol od cL cD fl fd ++ ([(x, EX r t d yg)] ++ (rowW r la bs cA (nI n) wm df q wd zs h ++ w3)), rfl, Or.inr (⟨hbad, rfl, rfl⟩), by rw [ht9]; exact hP, va_K.moved hW.alike hK, hD⟩, hS.F ht9⟩) hS.2.2 dL_tasteOf_13
  rw [List.append_nil] at hP hD
  have hP : va_P D vwCl (OU ol od cL cD fl fd ++ ([(x, EX r t d yg)] ++ (rowW r la bs cA (nI n) wm df q wd zs h ++ w3))) H := hP
  have hD : va_D A (OU ol od cL cD fl fd ++ ([(x, EX r t d yg)] ++ (rowW r la bs cA (nI n) wm df q wd zs h ++ w3))) := hD
  refine va_dast hx hb hK hP hD hS 1 3 (f := fd) rfl rfl (i := 0) (vp_in_nI (n := 0) (N := 1) (by decide) (by decide)) dL_tasteOf_7 (fun H locs hP hD hS => ?_)
  rw [cl_0] at hP hD
  have hP : va_P D vwCl (OU ol od cL cD fl (vf_upd fd 0 (let j := x9.toNatClampNeg; tasv (h j) (h (8 + j)) (h (16 + j)) (h (24 + j)))) ++ ([(x, EX r t d yg)] ++ (rowW r la bs cA (nI n) wm df q wd zs h ++ w3))) H := hP
  have hD : va_D A (OU ol od cL cD fl (vf_upd fd 0 (let j := x9.toNatClampNeg; tasv (h j) (h (8 + j)) (h (16 + j)) (h (24 + j)))) ++ ([(x, EX r t d yg)] ++ (rowW r la bs cA (nI n) wm df q wd zs h ++ w3))) := hD
  refine lv_goto (tgt := 14) hx hb dL_tasteOf_8 (by decide) ?_
  refine lv_iconst (v := 0) hx hb dL_tasteOf_14 (by decide) ?_
  refine W.widen (k := 1) (n := 6) (Nat.le_of_ble_eq_true rfl) (Nat.le_of_ble_eq_true rfl) ?_
  exact W.iret hx hb hr (fun t9 ht9 hW => ⟨⟨_, OU ol od cL cD fl (vf_upd fd 0 (let j := x9.toNatClampNeg; tasv (h j) (h (8 + j)) (h (16 + j)) (h (24 + j)))) ++ ([(x, EX r t d yg)] ++ (rowW r la bs cA (nI n) wm df q wd zs h ++ w3)), rfl, Or.inl ⟨hok, rfl, rfl⟩, by rw [ht9]; exact hP, va_K.moved hW.alike hK, hD⟩, hS.F ht9⟩) hS.2.2 dL_tasteOf_15

set_option maxHeartbeats 4000000 in
set_option maxRecDepth 100000 in
theorem metL_pourAway (l : Launch) (hst : l.stackTraces = false) (D : va_G) (sz : Nat) (x r t d : Nat) (yg : Int32) (la : Nat) (bs : Nat → Nat) (cA cI : ClassId) (n : Nat) (hn : n ≤ 8) (wm df : Int32) (q : UInt64) (wd zs : Nat → Int32) (h : Nat → UInt64) (w3 : va_W) (ol od : Nat) (cL cD : ClassId) (fl : Nat → Int64) (fd : Nat → UInt64) (x9 : Int32)  : Met l yL_pourAway wsL_pourAway { frames := 8, cells := 1, slots := 6, locals := 127 } (Ph D [(cA, .object "VinegarLoft$Barrel"), (cI, .int), (cL, .long), (cD, .double)] [.ref x, .int x9, .ref od] (OU ol od cL cD fl fd ++ ([(x, EX r t d yg)] ++ (rowW r la bs cA (nI n) wm df q wd zs h ++ w3))) sz) (va_Qi (fun (r9 : Int32) (W9 : va_W) => ((¬ badI n x9) ∧ r9 = 0 ∧ W9 = OU ol od cL cD fl (vf_upd fd 0 (h x9.toNatClampNeg)) ++ ([(x, EX r t d yg)] ++ (rowW r la bs cA (nI n) wm df q wd zs (hset h x9.toNatClampNeg 0 0 0 0) ++ w3))) ∨ ((badI n x9) ∧ r9 = 1 ∧ W9 = OU ol od cL cD fl fd ++ ([(x, EX r t d yg)] ++ (rowW r la bs cA (nI n) wm df q wd zs h ++ w3)))) (Bh D [(cA, .object "VinegarLoft$Barrel"), (cI, .int), (cL, .long), (cD, .double)] (va_A (OU ol od cL cD fl fd ++ ([(x, EX r t d yg)] ++ (rowW r la bs cA (nI n) wm df q wd zs h ++ w3))) sz)) (va_A (OU ol od cL cD fl fd ++ ([(x, EX r t d yg)] ++ (rowW r la bs cA (nI n) wm df q wd zs h ++ w3))) sz)) 1 6 (va_A (OU ol od cL cD fl fd ++ ([(x, EX r t d yg)] ++ (rowW r la bs cA (nI n) wm df q wd zs h ++ w3))) sz) := by
  refine kMet_H (cc := cL_pourAway) (maxL := 4) (ret := (some .int)) (hh := [(0, 8, 11, 28)]) (by decide) rfl ?_
  intro p e s m args below meth c s₁ B hml htab hv
  obtain ⟨rfl, hsz, hP, hK, hD0, hX, hH⟩ := hv
  have hx := B.exec
  have hb := B.bytes
  have hr := B.returns
  have hts := atoms_spec (ws := wsL_pourAway) B.pre
  have hown : s.vm.findClass RL = some m.cls := findClass_of_methodNamed B.named
  have hlocks := B.notSynchronized
  subst hsz
  have hD := hD0.self (sz := s.heap.size)
  generalize hAe : va_A (OU ol od cL cD fl fd ++ ([(x, EX r t d yg)] ++ (rowW r la bs cA (nI n) wm df q wd zs h ++ w3))) s.heap.size = A at hD hX ⊢
  have hA : ∀ q : Nat, s.heap.size ≤ q → A q := fun q h => by rw [← hAe]; exact Or.inr h
  refine kW_H (fun H hH0 => ?_)
  have hP : va_P D vwCl (OU ol od cL cD fl fd ++ (([(x, EX r t d yg)] ++ (rowW r la bs cA (nI n) wm df q wd zs h ++ w3)) ++ [])) H := by rw [List.append_nil, hH0]; exact hP
  have hD : va_D A (OU ol od cL cD fl fd ++ (([(x, EX r t d yg)] ++ (rowW r la bs cA (nI n) wm df q wd zs h ++ w3)) ++ [])) := by rw [List.append_nil]; exact hD
  have hS : va_S A s.heap H [] := by rw [hH0]; exact va_S.rf
  have hl := lv_entry ([.ref x, .int x9, .ref od]) (n := 4) (Nat.le_of_ble_eq_true rfl)
  rw [lg_entry_eq]
  generalize (lg_sl ([.ref x, .int x9, .ref od]) ++ List.replicate (4 - (lg_sl ([.ref x, .int x9, .ref od])).length) Slot.unset).toArray = ls at hl ⊢
  have hl : lv_has ls 4 [(0, .ref x), (1, .int x9), (2, .ref od)] := hl
  refine lv_aload_n hx hb dL_pourAway_0 rfl (lv_at hl 2 rfl) ?_
  refine lv_iconst (v := 0) hx hb dL_pourAway_1 (by decide) ?_
  refine lv_aload_n hx hb dL_pourAway_2 rfl (lv_at hl 0 rfl) ?_
  refine lv_iload_n hx hb dL_pourAway_3 rfl (lv_at hl 1 rfl) ?_
  have hX9 : XP A s H := hX.kept hS.2.1
  have hA9 : ∀ q : Nat, H.size ≤ q → A q := fun q h9 => hA q (Nat.le_trans hS.1 h9)
  refine kq_d (w1 := OU ol od cL cD fl fd) (w2 := [(x, EX r t d yg)] ++ (rowW r la bs cA (nI n) wm df q wd zs h ++ w3)) (w3 := []) (vx_runV (As := [.int x9]) (rest := [.int 0, .ref od]) ⟨hx, hb, hml, hown, hts⟩ (metX2_pourAway l hst D H.size x r t d yg la bs cA cI n hn wm df q wd zs h w3 x9 ) (cwV 1 hts gL_pourAway_X2_pourAway rfl rfl rfl (by decide +kernel) ⟨Nat.le_of_ble_eq_true rfl, Nat.le_of_ble_eq_true rfl⟩) (ptV 2 0 RX2 TX2 4 rfl rfl (vj_mP hP) (hK.sub [0, 1] rfl) (vj_mD hD) hX9 hA9) rfl rfl hl.1 rfl (lv_room (Nat.le_of_ble_eq_true rfl)) dL_pourAway_4 ⟨Nat.le_of_ble_eq_true rfl, Nat.le_of_ble_eq_true rfl⟩) hP hD hS hA (fun E ce q9 H locs hB hP hD hS hce hcv hcl => ?_) (fun H locs hok hP hD hS => ?_)
  · obtain ⟨rfl, hbad⟩ := hB
    rw [List.append_nil] at hP hD
    refine vx_catch (own := RL) (name := xIOB) (E := xIOB) hown [] ⟨0, 8, 11, 28⟩ [] htab (fun z hz => absurd hz List.not_mem_nil) (by decide) (by decide) (hts (.classLink RL 28 xIOB) (by decide +kernel)) (hH.cast (w := .castable xIOB xIOB) (by decide)) hce hcv hcl ?_
    refine W.eq (g2 := F0 m 11 ls [.ref q9]) rfl ?_
    refine lv_astore_n (lv' := [(3, .ref q9), (0, .ref x), (1, .int x9), (2, .ref od)]) hx hb dL_pourAway_11 rfl hl (by decide) rfl (fun ls hl => ?_)
    refine lv_iconst (v := 1) hx hb dL_pourAway_12 (by decide) ?_
    refine W.widen (k := 1) (n := 6) (Nat.le_of_ble_eq_true rfl) (Nat.le_of_ble_eq_true rfl) ?_
    exact W.iret hx hb hr (fun t9 ht9 hW => ⟨⟨_, OU ol od cL cD fl fd ++ ([(x, EX r t d yg)] ++ (rowW r la bs cA (nI n) wm df q wd zs h ++ w3)), rfl, Or.inr (⟨hbad, rfl, rfl⟩), by rw [ht9]; exact hP, va_K.moved hW.alike hK, hD⟩, hS.F ht9⟩) hS.2.2 dL_pourAway_13
  rw [List.append_nil] at hP hD
  have hP : va_P D vwCl (OU ol od cL cD fl fd ++ ([(x, EX r t d yg)] ++ (rowW r la bs cA (nI n) wm df q wd zs (hset h x9.toNatClampNeg 0 0 0 0) ++ w3))) H := hP
  have hD : va_D A (OU ol od cL cD fl fd ++ ([(x, EX r t d yg)] ++ (rowW r la bs cA (nI n) wm df q wd zs (hset h x9.toNatClampNeg 0 0 0 0) ++ w3))) := hD
  refine va_dast hx hb hK hP hD hS 1 3 (f := fd) rfl rfl (i := 0) (vp_in_nI (n := 0) (N := 1) (by decide) (by decide)) dL_pourAway_7 (fun H locs hP hD hS => ?_)
  rw [cl_0] at hP hD
  have hP : va_P D vwCl (OU ol od cL cD fl (vf_upd fd 0 (h x9.toNatClampNeg)) ++ ([(x, EX r t d yg)] ++ (rowW r la bs cA (nI n) wm df q wd zs (hset h x9.toNatClampNeg 0 0 0 0) ++ w3))) H := hP
  have hD : va_D A (OU ol od cL cD fl (vf_upd fd 0 (h x9.toNatClampNeg)) ++ ([(x, EX r t d yg)] ++ (rowW r la bs cA (nI n) wm df q wd zs (hset h x9.toNatClampNeg 0 0 0 0) ++ w3))) := hD
  refine lv_goto (tgt := 14) hx hb dL_pourAway_8 (by decide) ?_
  refine lv_iconst (v := 0) hx hb dL_pourAway_14 (by decide) ?_
  refine W.widen (k := 1) (n := 6) (Nat.le_of_ble_eq_true rfl) (Nat.le_of_ble_eq_true rfl) ?_
  exact W.iret hx hb hr (fun t9 ht9 hW => ⟨⟨_, OU ol od cL cD fl (vf_upd fd 0 (h x9.toNatClampNeg)) ++ ([(x, EX r t d yg)] ++ (rowW r la bs cA (nI n) wm df q wd zs (hset h x9.toNatClampNeg 0 0 0 0) ++ w3)), rfl, Or.inl ⟨hok, rfl, rfl⟩, by rw [ht9]; exact hP, va_K.moved hW.alike hK, hD⟩, hS.F ht9⟩) hS.2.2 dL_pourAway_15

set_option maxHeartbeats 4000000 in
set_option maxRecDepth 100000 in
theorem metL_draw (l : Launch) (hst : l.stackTraces = false) (D : va_G) (sz : Nat) (x r t d : Nat) (yg : Int32) (la : Nat) (bs : Nat → Nat) (cA cI : ClassId) (n : Nat) (hn : n ≤ 8) (wm df : Int32) (q : UInt64) (wd zs : Nat → Int32) (h : Nat → UInt64) (w4 : va_W) (dk : Nat → Int32) (ol od : Nat) (cL cD : ClassId) (fl : Nat → Int64) (fd : Nat → UInt64) (x9 : Int32) (hN : NNr n h) (hr9 : rdok h n q) (hdk : ¬ badR 1 1000 x9 → dwok h n df q x9) : Met l yL_draw wsL_draw { frames := 7, cells := 1, slots := 6, locals := 105 } (Ph D [(cA, .object "VinegarLoft$Barrel"), (cI, .int), (cL, .long), (cD, .double)] [.ref x, .int x9, .ref ol] (OU ol od cL cD fl fd ++ ([(x, EX r t d yg)] ++ (rowW r la bs cA (nI n) wm df q wd zs h ++ (w4 ++ [(d, ED cI dk)])))) sz) (va_Qi (fun (r9 : Int32) (W9 : va_W) => ((¬ badR 1 1000 x9) ∧ r9 = 0 ∧ W9 = OU ol od cL cD (vp_updL fl 0 (takv h n df q x9).toInt64) fd ++ ([(x, EX r t d yg)] ++ (rowW r la bs cA (nI n) wm df (drQ h n df q x9) wd zs (drH h n df q x9) ++ (w4 ++ [(d, ED cI (drK dk h n df q x9))])))) ∨ ((badR 1 1000 x9) ∧ r9 = 1 ∧ W9 = OU ol od cL cD fl fd ++ ([(x, EX r t d yg)] ++ (rowW r la bs cA (nI n) wm df q wd zs h ++ (w4 ++ [(d, ED cI dk)]))))) (Bh D [(cA, .object "VinegarLoft$Barrel"), (cI, .int), (cL, .long), (cD, .double)] (va_A (OU ol od cL cD fl fd ++ ([(x, EX r t d yg)] ++ (rowW r la bs cA (nI n) wm df q wd zs h ++ (w4 ++ [(d, ED cI dk)])))) sz)) (va_A (OU ol od cL cD fl fd ++ ([(x, EX r t d yg)] ++ (rowW r la bs cA (nI n) wm df q wd zs h ++ (w4 ++ [(d, ED cI dk)])))) sz)) 1 6 (va_A (OU ol od cL cD fl fd ++ ([(x, EX r t d yg)] ++ (rowW r la bs cA (nI n) wm df q wd zs h ++ (w4 ++ [(d, ED cI dk)])))) sz) := by
  refine kMet_H (cc := cL_draw) (maxL := 4) (ret := (some .int)) (hh := [(0, 9, 12, 13)]) (by decide) rfl ?_
  intro p e s m args below meth c s₁ B hml htab hv
  obtain ⟨rfl, hsz, hP, hK, hD0, hX, hH⟩ := hv
  have hx := B.exec
  have hb := B.bytes
  have hr := B.returns
  have hts := atoms_spec (ws := wsL_draw) B.pre
  have hown : s.vm.findClass RL = some m.cls := findClass_of_methodNamed B.named
  have hlocks := B.notSynchronized
  subst hsz
  have hD := hD0.self (sz := s.heap.size)
  generalize hAe : va_A (OU ol od cL cD fl fd ++ ([(x, EX r t d yg)] ++ (rowW r la bs cA (nI n) wm df q wd zs h ++ (w4 ++ [(d, ED cI dk)])))) s.heap.size = A at hD hX ⊢
  have hA : ∀ q : Nat, s.heap.size ≤ q → A q := fun q h => by rw [← hAe]; exact Or.inr h
  refine kW_H (fun H hH0 => ?_)
  have hP : va_P D vwCl (OU ol od cL cD fl fd ++ (([(x, EX r t d yg)] ++ (rowW r la bs cA (nI n) wm df q wd zs h ++ (w4 ++ [(d, ED cI dk)]))) ++ [])) H := by rw [List.append_nil, hH0]; exact hP
  have hD : va_D A (OU ol od cL cD fl fd ++ (([(x, EX r t d yg)] ++ (rowW r la bs cA (nI n) wm df q wd zs h ++ (w4 ++ [(d, ED cI dk)]))) ++ [])) := by rw [List.append_nil]; exact hD
  have hS : va_S A s.heap H [] := by rw [hH0]; exact va_S.rf
  have hl := lv_entry ([.ref x, .int x9, .ref ol]) (n := 4) (Nat.le_of_ble_eq_true rfl)
  rw [lg_entry_eq]
  generalize (lg_sl ([.ref x, .int x9, .ref ol]) ++ List.replicate (4 - (lg_sl ([.ref x, .int x9, .ref ol])).length) Slot.unset).toArray = ls at hl ⊢
  have hl : lv_has ls 4 [(0, .ref x), (1, .int x9), (2, .ref ol)] := hl
  refine lv_aload_n hx hb dL_draw_0 rfl (lv_at hl 2 rfl) ?_
  refine lv_iconst (v := 0) hx hb dL_draw_1 (by decide) ?_
  refine lv_aload_n hx hb dL_draw_2 rfl (lv_at hl 0 rfl) ?_
  refine lv_iload_n hx hb dL_draw_3 rfl (lv_at hl 1 rfl) ?_
  have hX9 : XP A s H := hX.kept hS.2.1
  have hA9 : ∀ q : Nat, H.size ≤ q → A q := fun q h9 => hA q (Nat.le_trans hS.1 h9)
  refine kq_i (w1 := OU ol od cL cD fl fd) (w2 := [(x, EX r t d yg)] ++ (rowW r la bs cA (nI n) wm df q wd zs h ++ (w4 ++ [(d, ED cI dk)]))) (w3 := []) (vx_runV (As := [.int x9]) (rest := [.int 0, .ref ol]) ⟨hx, hb, hml, hown, hts⟩ (metX2_draw l hst D H.size x r t d yg la bs cA cI n hn wm df q wd zs h w4 dk x9 hN hr9 hdk) (cwV 1 hts gL_draw_X2_draw rfl rfl rfl (by decide +kernel) ⟨Nat.le_of_ble_eq_true rfl, Nat.le_of_ble_eq_true rfl⟩) (ptV 2 0 RX2 TX2 4 rfl rfl (vj_mP hP) (hK.sub [0, 1] rfl) (vj_mD hD) hX9 hA9) rfl rfl hl.1 rfl (lv_room (Nat.le_of_ble_eq_true rfl)) dL_draw_4 ⟨Nat.le_of_ble_eq_true rfl, Nat.le_of_ble_eq_true rfl⟩) hP hD hS hA (fun E ce q9 H locs hB hP hD hS hce hcv hcl => ?_) (fun H locs hok hP hD hS => ?_)
  · obtain ⟨rfl, hbad⟩ := hB
    rw [List.append_nil] at hP hD
    refine vx_catch (own := RL) (name := xIAE) (E := xIAE) hown [] ⟨0, 9, 12, 13⟩ [] htab (fun z hz => absurd hz List.not_mem_nil) (by decide) (by decide) (hts (.classLink RL 13 xIAE) (by decide +kernel)) (hH.cast (w := .castable xIAE xIAE) (by decide)) hce hcv hcl ?_
    refine W.eq (g2 := F0 m 12 ls [.ref q9]) rfl ?_
    refine lv_astore_n (lv' := [(3, .ref q9), (0, .ref x), (1, .int x9), (2, .ref ol)]) hx hb dL_draw_12 rfl hl (by decide) rfl (fun ls hl => ?_)
    refine lv_iconst (v := 1) hx hb dL_draw_13 (by decide) ?_
    refine W.widen (k := 1) (n := 6) (Nat.le_of_ble_eq_true rfl) (Nat.le_of_ble_eq_true rfl) ?_
    exact W.iret hx hb hr (fun t9 ht9 hW => ⟨⟨_, OU ol od cL cD fl fd ++ ([(x, EX r t d yg)] ++ (rowW r la bs cA (nI n) wm df q wd zs h ++ (w4 ++ [(d, ED cI dk)]))), rfl, Or.inr (⟨hbad, rfl, rfl⟩), by rw [ht9]; exact hP, va_K.moved hW.alike hK, hD⟩, hS.F ht9⟩) hS.2.2 dL_draw_14
  rw [List.append_nil] at hP hD
  have hP : va_P D vwCl (OU ol od cL cD fl fd ++ ([(x, EX r t d yg)] ++ (rowW r la bs cA (nI n) wm df (drQ h n df q x9) wd zs (drH h n df q x9) ++ (w4 ++ [(d, ED cI (drK dk h n df q x9))])))) H := hP
  have hD : va_D A (OU ol od cL cD fl fd ++ ([(x, EX r t d yg)] ++ (rowW r la bs cA (nI n) wm df (drQ h n df q x9) wd zs (drH h n df q x9) ++ (w4 ++ [(d, ED cI (drK dk h n df q x9))])))) := hD
  refine lv_i2l (v := (takv h n df q x9).toInt64) hx hb dL_draw_7 rfl ?_
  refine va_last hx hb hK hP hD hS 0 2 (f := fl) rfl rfl (i := 0) (vp_in_nI (n := 0) (N := 1) (by decide) (by decide)) dL_draw_8 (fun H locs hP hD hS => ?_)
  rw [cl_0] at hP hD
  have hP : va_P D vwCl (OU ol od cL cD (vp_updL fl 0 (takv h n df q x9).toInt64) fd ++ ([(x, EX r t d yg)] ++ (rowW r la bs cA (nI n) wm df (drQ h n df q x9) wd zs (drH h n df q x9) ++ (w4 ++ [(d, ED cI (drK dk h n df q x9))])))) H := hP
  have hD : va_D A (OU ol od cL cD (vp_updL fl 0 (takv h n df q x9).toInt64) fd ++ ([(x, EX r t d yg)] ++ (rowW r la bs cA (nI n) wm df (drQ h n df q x9) wd zs (drH h n df q x9) ++ (w4 ++ [(d, ED cI (drK dk h n df q x9))])))) := hD
  refine lv_goto (tgt := 15) hx hb dL_draw_9 (by decide) ?_
  refine lv_iconst (v := 0) hx hb dL_draw_15 (by decide) ?_
  refine W.widen (k := 1) (n := 6) (Nat.le_of_ble_eq_true rfl) (Nat.le_of_ble_eq_true rfl) ?_
  exact W.iret hx hb hr (fun t9 ht9 hW => ⟨⟨_, OU ol od cL cD (vp_updL fl 0 (takv h n df q x9).toInt64) fd ++ ([(x, EX r t d yg)] ++ (rowW r la bs cA (nI n) wm df (drQ h n df q x9) wd zs (drH h n df q x9) ++ (w4 ++ [(d, ED cI (drK dk h n df q x9))]))), rfl, Or.inl ⟨hok, rfl, rfl⟩, by rw [ht9]; exact hP, va_K.moved hW.alike hK, hD⟩, hS.F ht9⟩) hS.2.2 dL_draw_16

