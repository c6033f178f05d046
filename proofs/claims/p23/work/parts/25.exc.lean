/-! what a throw needs of the start, and calls that may throw -/
abbrev xIAE : String := "java/lang/IllegalArgumentException"
abbrev xISE : String := "java/lang/IllegalStateException"
abbrev xIOB : String := "java/lang/IndexOutOfBoundsException"
abbrev xNm : List String := ["java/lang/RuntimeException", "java/lang/Exception"]
/-- the words of the throws that no method's own list has -/
def xW : List Cond := ((vx_atS RX2 31 xIAE xNm).filter (fun w => !goodWord w) ++ (vx_atS RX2 48 xISE xNm).filter (fun w => !goodWord w)) ++ (vx_atS RX2 137 xIOB xNm).filter (fun w => !goodWord w)
theorem xW_face : xW.all (fun w => w.onTables && w.keepsFace) = true := by decide +kernel
/-- the texts -/
def xT : List (Nat × String) := [(29, "no such wood"), (38, "size out of range"), (46, "the row has all its barrels"), (53, "litres out of range"), (66, "bottles out of range"), (95, "degrees out of range"), (118, "no such kind of bottles"), (135, "no such barrel")]
theorem face_at {w : Cond} {args a' : Array Value} {s U : State} (hw : (w.onTables && w.keepsFace) = true) (hW : s.WarmedH U.vm) (h : w.before args s = true) : w.before a' U = true := by
  simp only [Bool.and_eq_true] at hw
  have h1 : w.before args (s.setVm U.vm) = true := Cond.before_shiftedFace (State.Shifted.of_warmed hW) w hw.2 h
  exact va_tabs (u := s.setVm U.vm) (U := U) hw.1 rfl h1
/-- what a throw needs: the two statics of Throwable out of the region A, the words, the texts -/
def XP (A : Nat → Prop) (U : State) (H : Heap) : Prop := vx_Zq Bundle.tN "UNASSIGNED_STACK" Bundle.steD A U H ∧ vx_Zq Bundle.tN "SUPPRESSED_SENTINEL" Bundle.listD A U H ∧ (∀ w ∈ xW, w.before #[] U = true) ∧ ∀ q ∈ xT, ∃ sa : Nat, vk_R RX2 q.1 q.2 sa U
theorem XP.moved {A : Nat → Prop} {s U : State} {H : Heap} (hW : s.WarmedH U.vm) (h : XP A s H) : XP A U H :=
  ⟨h.1.moved hW.alike, h.2.1.moved hW.alike, fun w hw => face_at (List.all_eq_true.mp xW_face w hw) hW (h.2.2.1 w hw), fun q hq => by obtain ⟨sa, h1⟩ := h.2.2.2 q hq; exact ⟨sa, vk_R.warm hW h1⟩⟩
theorem XP.narrow {A B : Nat → Prop} {U : State} {H : Heap} (h : XP A U H) (hAB : ∀ q, B q → A q) : XP B U H := ⟨h.1.narrow hAB, h.2.1.narrow hAB, h.2.2⟩
theorem XP.kept {A : Nat → Prop} {U : State} {H H1 : Heap} (h : XP A U H) (hq : ∀ a : Nat, a < H.size → ¬ A a → H1[a]? = H[a]?) : XP A U H1 := ⟨h.1.kept hq, h.2.1.kept hq, h.2.2⟩
/-- a method's start where something may be thrown -/
def Pt (D : va_G) (tys : List (ClassId × FieldType)) (av : List Value) (ws : va_W) (sz : Nat) : Array Value → State → Prop := va_Pc av (fun U => U.heap.size = sz ∧ va_P D vwCl ws U.heap ∧ va_K D vwCl tys U ∧ va_D (fun _ => True) ws ∧ XP (va_A ws sz) U U.heap)
theorem Pt_blind {D : va_G} {tys : List (ClassId × FieldType)} {av : List Value} {ws : va_W} {sz : Nat} : FrameBlind (Pt D tys av ws sz) := fun a U g mk q => by
  obtain ⟨q0, q1, qP, qK, qD, qX⟩ := q
  exact ⟨q0, q1, qP, va_K.moved (u := U) (U := U.calling g mk a) (Vm.Alike.refl U.vm) qK, qD, qX.moved (s := U) (U := U.calling g mk a) (State.WarmedH.refl U)⟩
section PRE
variable {s : State} {H : Heap} {D : va_G} {tys : List (ClassId × FieldType)} {ws : va_W} {A : Nat → Prop} {As : List Value} {b : Addr}
theorem ptS (hP : va_P D vwCl ws H) (hK : va_K D vwCl tys s) (hD : va_D A ws) (hX : XP A s H) (hA : ∀ q, H.size ≤ q → A q) : PreS s H (Pt D tys As ws H.size) As :=
  ⟨Pt_blind, fun U hU hW => ⟨rfl, by rw [hU], by rw [hU]; exact hP, va_K.moved hW.alike hK, hD.weaken (fun _ _ _ _ => trivial), by
    rw [hU]
    refine (hX.moved hW).narrow (fun q h => ?_)
    rcases h with ⟨k, e, h⟩ | h
    · exact hD.2 k _ h
    · exact hA q h⟩⟩
theorem ptV (ci k : Nat) (C : String) (T : u_T) (N : Nat) {fs : List Value} (hc : vwCl[ci]? = some (C, T, N)) (he : ws[k]? = some (b, .inr (ci, fs))) (hP : va_P D vwCl ws H) (hK : va_K D vwCl tys s) (hD : va_D A ws) (hX : XP A s H) (hA : ∀ q, H.size ≤ q → A q) : PreV s H C b (Pt D tys (.ref b :: As) ws H.size) As :=
  ⟨Pt_blind, va_recv hK hP hc he, (ptS hP hK hD hX hA).2⟩
end PRE
/-- how a method ends by a throw: what is thrown, the world as it was -/
abbrev XE (XB : String → Prop) (D : va_G) (tys : List (ClassId × FieldType)) (A : Nat → Prop) (ws : va_W) : String → State → State → Prop := vx_X (fun (_ : Unit) => True) (fun E (_ : Unit) t => XB E ∧ va_P D vwCl ws t.heap ∧ va_K D vwCl tys t ∧ va_D A ws) A
theorem va_F_of {A : Nat → Prop} {s t : State} {H : Heap} {locs : List Loc} (hS : va_S A s.heap H locs) (h1 : H.size ≤ t.heap.size) (h2 : ∀ q : Nat, q < H.size → t.heap[q]? = H[q]?) : va_F A s t :=
  ⟨Nat.le_trans hS.1 h1, fun q hq hA => by rw [h2 q (Nat.lt_of_lt_of_le hq hS.1)]; exact hS.2.1 q hq hA⟩
section THROW
variable {p : Program} {l : Launch} {e : Env} {R : Room} {s : State} {m : MethodId} {args : Array Value} {below : List Frame} {meth : Method} {c : Code} {H : Heap} {locs : List Loc} {cells slots : Nat} {Q : State → Prop}
variable {pc : Nat} {ls : Array Slot} {rest st0 : List Value} {aa : Array Value} {D : va_G} {tc : List (ClassId × FieldType)} {A : Nat → Prop} {H0 : Heap} {cc : ByteArray} {ws : va_W}
/-- 'throw new cls("text")' out of a method of VinegarLoft -/
theorem kx_throw {Qc : Array Value → State → Outcome → State → Prop} {XB : String → Prop} {free : Addr → Prop} {cls text : String} {ik is ic : Nat} (hexec : p.tables.exec = Jvm.exec) (hb : c.code = cc) (hl : l.stackTraces = false) (hown : s.vm.findClass RX2 = some m.cls) (hlocks : meth.locks = false) (hcls : Bundle.fit cls = true)
    (hk : (Cond.classLink RX2 ik cls).before args s = true) (hini : (Cond.initialized cls).before args s = true) (hq : (is, text) ∈ xT)
    (hg1 : ∀ w ∈ (vx_atS RX2 ic cls xNm).filter goodWord, w.before args s = true) (hg2 : ∀ w ∈ (vx_atS RX2 ic cls xNm).filter (fun w => !goodWord w), w ∈ xW)
    (hgood : ∀ w ∈ Cond.classLink RX2 ik cls :: Cond.initialized cls :: vx_atS RX2 ic cls xNm, vx_ot w = true)
    (hX : XP A s s.heap) (hS : va_S A s.heap H locs) (hsize : ls.size = c.maxLocals) (ht : ∀ x ∈ c.exceptionTable.toList, False)
    (d0 : decode cc pc = .ok (.new ik, 3)) (d3 : decode cc (pc + 3) = .ok (.dup, 1)) (d4 : decode cc (pc + 4) = .ok (.ldc is, 2)) (d6 : decode cc (pc + 6) = .ok (.invokespecial ic, 3)) (d9 : decode cc (pc + 9) = .ok (.athrow, 1))
    (hR : 6 ≤ R.frames ∧ 82 ≤ R.locals ∧ cells + 1 ≤ R.cells ∧ slots + 6 ≤ R.slots) (hB : XB cls) (hP : va_P D vwCl ws H) (hK : va_K D vwCl tc s) (hD : va_D A ws) (hf : ∀ q, A q → free q) (hc : cells + 1 ≤ 1) (hs : slots + 6 ≤ 6) :
    W p l e R s m args below meth c H locs cells slots (vx_MQ below Qc (XE XB D tc A ws) args s 1 6 free) (F0 m pc ls []) := by
  obtain ⟨sa, hstr⟩ := hX.2.2.2 (is, text) hq
  have hbw : ∀ w ∈ xW, w.before args s = true := fun w hw => by
    have h1 := List.all_eq_true.mp xW_face w hw
    simp only [Bool.and_eq_true] at h1
    exact va_tabs h1.1 rfl (hX.2.2.1 w hw)
  refine vx_throwS (A := A) hexec hb hl (own := RX2) (cls := cls) (names := xNm) (text := text) hown hcls (by decide) hk hini hstr (vx_hat hg1 hg2 hbw) hgood hX.1 hX.2.1 hS hsize d0 d3 d4 d6 d9 (fun x hx => (ht x hx).elim)
    (by have h9 : xNm.length = 2 := rfl; omega) (by have h9 : xNm.length = 2 := rfl; simp only [List.map_nil, List.sum_nil]; omega) hR.2.2.1 hR.2.2.2 hlocks (fun t hvm h1 h2 => ⟨(), trivial, ⟨hB, ?_, va_K.moved hvm hK, hD⟩, va_F_of hS h1 h2⟩) (fun z hz => hf _ (hS.2.2 z hz)) hc hs
  exact hP.kept (fun k q hk => h2 q.1 (hP k q hk).lt)
/-- a call that answers a reference or throws -/
theorem vx_callr {S SX : Type} {post : S → Prop} {px : SX → Prop} {mc ms : Nat} {free : Addr → Prop} {A0 A1 : Nat → Prop} {B : S → Nat → State → Prop} {BX : String → SX → State → Prop} {AX : Nat → Prop} (hr : vx_Run p l e R s m args below meth c H locs cells slots mc ms (F0 m pc ls st0) rest (va_Qr post B A1 aa) (vx_X px BX AX) free) (hS : va_S A0 H0 H locs) (hA : ∀ q, q < H.size → A1 q → A0 q) (hf : ∀ q, free q → A0 q) (hAX : ∀ q, q < H.size → AX q → A0 q)
    (kx : ∀ (E : String) (ce : Cell) (q9 : Addr) (u : SX) (t : State) (H1 : Heap) (locs1 : List Loc), t.heap = H1 → s.vm.Alike t.vm → px u → BX E u t → H.size ≤ H1.size → (∀ q : Nat, q < H.size → ¬ AX q → H1[q]? = H[q]?) → va_S A0 H0 H1 locs1 → H1[q9]? = some ce → ce.vm = .none → s.vm.findClass E = some ce.cls → vx_W p l e R s m args below meth c H1 locs1 (cells + mc) (slots + ms) Q (F0 m pc ls rest) q9)
    (kk : ∀ (u : S) (ra : Nat) (t : State) (H1 : Heap) (locs1 : List Loc), t.heap = H1 → s.vm.Alike t.vm → post u → B u ra t → H.size ≤ H1.size → (∀ q : Nat, q < H.size → ¬ A1 q → H1[q]? = H[q]?) → va_S A0 H0 H1 locs1 → W p l e R s m args below meth c H1 locs1 (cells + mc) (slots + ms) Q (F0 m (pc + 3) ls (.ref ra :: rest))) : W p l e R s m args below meth c H locs cells slots Q (F0 m pc ls st0) := by
  intro T hT X
  rcases hr T hT X with ⟨v, st₀, t, T', L, h0, X', hL, e1, e2, ⟨⟨u, ra, hv, hp, hb⟩, hF⟩, st⟩ | ⟨q, st₀, t, T', L, E, ce, h0, X', hL, e1, e2, ⟨u, hp, hb, hF⟩, hce, hcv, hcl, st⟩
  · cases hv
    obtain ⟨k1, k2, k3⟩ := vx_keep h0 e1 hS hA hf hL hF
    obtain ⟨t2, a1, b1⟩ := kk u ra t T'.heap (locs ++ L) e1.symm (by rw [← e2]; exact X'.warmed.alike) hp hb k1 k2 k3 T' rfl X'
    exact ⟨t2, st t2 a1, b1⟩
  · obtain ⟨k1, k2, k3⟩ := vx_keep h0 e1 hS hAX hf hL hF
    obtain ⟨t2, a1, b1⟩ := kx E ce q u t T'.heap (locs ++ L) e1.symm (by rw [← e2]; exact X'.warmed.alike) hp hb k1 k2 k3 (by rw [e1]; exact hce) hcv hcl T' rfl X'
    exact ⟨t2, st.trans a1, b1⟩
/-! calls that may throw, over the middle of a world; where they throw the world is as it was -/
variable {A0 : Nat → Prop} {w1 w2 w2' w3 : va_W} {mc ms : Nat} {OK : Prop} {XB : String → Prop}
theorem kq_i {RES : Int32} (hr : vx_Run p l e R s m args below meth c H locs cells slots mc ms (F0 m pc ls st0) rest (va_Qi (fun (r : Int32) (_ : Unit) => OK ∧ r = RES) (Bm D tc (va_A w2 H.size) w2') (va_A w2 H.size) aa) (XE XB D tc (va_A w2 H.size) w2) (va_A w2 H.size)) (hP : va_P D vwCl (w1 ++ (w2 ++ w3)) H) (hD : va_D A0 (w1 ++ (w2 ++ w3))) (hS : va_S A0 H0 H locs) (hA : ∀ q, H0.size ≤ q → A0 q)
    (kx : ∀ (E : String) (ce : Cell) (q9 : Addr) (H1 : Heap) (locs1 : List Loc), XB E → va_P D vwCl (w1 ++ (w2 ++ w3)) H1 → va_D A0 (w1 ++ (w2 ++ w3)) → va_S A0 H0 H1 locs1 → H1[q9]? = some ce → ce.vm = .none → s.vm.findClass E = some ce.cls → vx_W p l e R s m args below meth c H1 locs1 (cells + mc) (slots + ms) Q (F0 m pc ls rest) q9)
    (kk : ∀ (H1 : Heap) (locs1 : List Loc), OK → va_P D vwCl (w1 ++ (w2' ++ w3)) H1 → va_D A0 (w1 ++ (w2' ++ w3)) → va_S A0 H0 H1 locs1 → W p l e R s m args below meth c H1 locs1 (cells + mc) (slots + ms) Q (F0 m (pc + 3) ls (.int RES :: rest))) : W p l e R s m args below meth c H locs cells slots Q (F0 m pc ls st0) := by
  refine vx_calli hr hS (fun q _ h => vj_mF hD hS hA q h) (vj_mF hD hS hA) (fun q _ h => vj_mF hD hS hA q h) (fun E ce q9 u t H1 locs1 ht hvm _ hB hz hk hS1 hce hcv hcl => ?_) (fun r u t H1 locs1 ht hvm hw hB hz hk hS1 => ?_)
  · obtain ⟨hX, hP1, hK1, hD1⟩ := hB
    rw [ht] at hP1
    obtain ⟨hP2, hD2⟩ := vj_mid hP hD hk (vj_mF hD hS hA) hP1 hD1
    exact kx E ce q9 H1 locs1 hX hP2 hD2 hS1 hce hcv hcl
  · obtain ⟨hok, hw⟩ := hw
    subst hw
    obtain ⟨hP1, hK1, hD1⟩ := hB
    rw [ht] at hP1
    obtain ⟨hP2, hD2⟩ := vj_mid hP hD hk (vj_mF hD hS hA) hP1 hD1
    exact kk H1 locs1 hok hP2 hD2 hS1
theorem kq_d {RES : UInt64} (hr : vx_Run p l e R s m args below meth c H locs cells slots mc ms (F0 m pc ls st0) rest (va_Qd (fun (r : UInt64) (_ : Unit) => OK ∧ r = RES) (Bm D tc (va_A w2 H.size) w2') (va_A w2 H.size) aa) (XE XB D tc (va_A w2 H.size) w2) (va_A w2 H.size)) (hP : va_P D vwCl (w1 ++ (w2 ++ w3)) H) (hD : va_D A0 (w1 ++ (w2 ++ w3))) (hS : va_S A0 H0 H locs) (hA : ∀ q, H0.size ≤ q → A0 q)
    (kx : ∀ (E : String) (ce : Cell) (q9 : Addr) (H1 : Heap) (locs1 : List Loc), XB E → va_P D vwCl (w1 ++ (w2 ++ w3)) H1 → va_D A0 (w1 ++ (w2 ++ w3)) → va_S A0 H0 H1 locs1 → H1[q9]? = some ce → ce.vm = .none → s.vm.findClass E = some ce.cls → vx_W p l e R s m args below meth c H1 locs1 (cells + mc) (slots + ms) Q (F0 m pc ls rest) q9)
    (kk : ∀ (H1 : Heap) (locs1 : List Loc), OK → va_P D vwCl (w1 ++ (w2' ++ w3)) H1 → va_D A0 (w1 ++ (w2' ++ w3)) → va_S A0 H0 H1 locs1 → W p l e R s m args below meth c H1 locs1 (cells + mc) (slots + ms) Q (F0 m (pc + 3) ls (.double RES :: rest))) : W p l e R s m args below meth c H locs cells slots Q (F0 m pc ls st0) := by
  refine vx_calld hr hS (fun q _ h => vj_mF hD hS hA q h) (vj_mF hD hS hA) (fun q _ h => vj_mF hD hS hA q h) (fun E ce q9 u t H1 locs1 ht hvm _ hB hz hk hS1 hce hcv hcl => ?_) (fun r u t H1 locs1 ht hvm hw hB hz hk hS1 => ?_)
  · obtain ⟨hX, hP1, hK1, hD1⟩ := hB
    rw [ht] at hP1
    obtain ⟨hP2, hD2⟩ := vj_mid hP hD hk (vj_mF hD hS hA) hP1 hD1
    exact kx E ce q9 H1 locs1 hX hP2 hD2 hS1 hce hcv hcl
  · obtain ⟨hok, hw⟩ := hw
    subst hw
    obtain ⟨hP1, hK1, hD1⟩ := hB
    rw [ht] at hP1
    obtain ⟨hP2, hD2⟩ := vj_mid hP hD hk (vj_mF hD hS hA) hP1 hD1
    exact kk H1 locs1 hok hP2 hD2 hS1
theorem kq_v (hr : vx_Run p l e R s m args below meth c H locs cells slots mc ms (F0 m pc ls st0) rest (va_Qv (fun (_ : Unit) => OK) (Bm D tc (va_A w2 H.size) w2') (va_A w2 H.size) aa) (XE XB D tc (va_A w2 H.size) w2) (va_A w2 H.size)) (hP : va_P D vwCl (w1 ++ (w2 ++ w3)) H) (hD : va_D A0 (w1 ++ (w2 ++ w3))) (hS : va_S A0 H0 H locs) (hA : ∀ q, H0.size ≤ q → A0 q)
    (kx : ∀ (E : String) (ce : Cell) (q9 : Addr) (H1 : Heap) (locs1 : List Loc), XB E → va_P D vwCl (w1 ++ (w2 ++ w3)) H1 → va_D A0 (w1 ++ (w2 ++ w3)) → va_S A0 H0 H1 locs1 → H1[q9]? = some ce → ce.vm = .none → s.vm.findClass E = some ce.cls → vx_W p l e R s m args below meth c H1 locs1 (cells + mc) (slots + ms) Q (F0 m pc ls rest) q9)
    (kk : ∀ (H1 : Heap) (locs1 : List Loc), OK → va_P D vwCl (w1 ++ (w2' ++ w3)) H1 → va_D A0 (w1 ++ (w2' ++ w3)) → va_S A0 H0 H1 locs1 → W p l e R s m args below meth c H1 locs1 (cells + mc) (slots + ms) Q (F0 m (pc + 3) ls rest)) : W p l e R s m args below meth c H locs cells slots Q (F0 m pc ls st0) := by
  refine vx_callv hr hS (fun q _ h => vj_mF hD hS hA q h) (vj_mF hD hS hA) (fun q _ h => vj_mF hD hS hA q h) (fun E ce q9 u t H1 locs1 ht hvm _ hB hz hk hS1 hce hcv hcl => ?_) (fun u t H1 locs1 ht hvm hw hB hz hk hS1 => ?_)
  · obtain ⟨hX, hP1, hK1, hD1⟩ := hB
    rw [ht] at hP1
    obtain ⟨hP2, hD2⟩ := vj_mid hP hD hk (vj_mF hD hS hA) hP1 hD1
    exact kx E ce q9 H1 locs1 hX hP2 hD2 hS1 hce hcv hcl
  · obtain ⟨hP1, hK1, hD1⟩ := hB
    rw [ht] at hP1
    obtain ⟨hP2, hD2⟩ := vj_mid hP hD hk (vj_mF hD hS hA) hP1 hD1
    exact kk H1 locs1 hw hP2 hD2 hS1
theorem kq_r {RES : Nat} (hr : vx_Run p l e R s m args below meth c H locs cells slots mc ms (F0 m pc ls st0) rest (va_Qr (fun (_ : Unit) => OK) (fun _ a t => a = RES ∧ va_P D vwCl w2' t.heap ∧ va_K D vwCl tc t ∧ va_D (va_A w2 H.size) w2') (va_A w2 H.size) aa) (XE XB D tc (va_A w2 H.size) w2) (va_A w2 H.size)) (hP : va_P D vwCl (w1 ++ (w2 ++ w3)) H) (hD : va_D A0 (w1 ++ (w2 ++ w3))) (hS : va_S A0 H0 H locs) (hA : ∀ q, H0.size ≤ q → A0 q)
    (kx : ∀ (E : String) (ce : Cell) (q9 : Addr) (H1 : Heap) (locs1 : List Loc), XB E → va_P D vwCl (w1 ++ (w2 ++ w3)) H1 → va_D A0 (w1 ++ (w2 ++ w3)) → va_S A0 H0 H1 locs1 → H1[q9]? = some ce → ce.vm = .none → s.vm.findClass E = some ce.cls → vx_W p l e R s m args below meth c H1 locs1 (cells + mc) (slots + ms) Q (F0 m pc ls rest) q9)
    (kk : ∀ (H1 : Heap) (locs1 : List Loc), OK → va_P D vwCl (w1 ++ (w2' ++ w3)) H1 → va_D A0 (w1 ++ (w2' ++ w3)) → va_S A0 H0 H1 locs1 → W p l e R s m args below meth c H1 locs1 (cells + mc) (slots + ms) Q (F0 m (pc + 3) ls (.ref RES :: rest))) : W p l e R s m args below meth c H locs cells slots Q (F0 m pc ls st0) := by
  refine vx_callr hr hS (fun q _ h => vj_mF hD hS hA q h) (vj_mF hD hS hA) (fun q _ h => vj_mF hD hS hA q h) (fun E ce q9 u t H1 locs1 ht hvm _ hB hz hk hS1 hce hcv hcl => ?_) (fun u ra t H1 locs1 ht hvm hw hB hz hk hS1 => ?_)
  · obtain ⟨hX, hP1, hK1, hD1⟩ := hB
    rw [ht] at hP1
    obtain ⟨hP2, hD2⟩ := vj_mid hP hD hk (vj_mF hD hS hA) hP1 hD1
    exact kx E ce q9 H1 locs1 hX hP2 hD2 hS1 hce hcv hcl
  · obtain ⟨he, hP1, hK1, hD1⟩ := hB
    subst he
    rw [ht] at hP1
    obtain ⟨hP2, hD2⟩ := vj_mid hP hD hk (vj_mF hD hS hA) hP1 hD1
    exact kk H1 locs1 hw hP2 hD2 hS1
/-- what a callee threw goes on to the caller's caller -/
theorem kx_out {Qc : Array Value → State → Outcome → State → Prop} {free : Addr → Prop} {E : String} {ce : Cell} {q9 : Addr} (ht : ∀ x ∈ c.exceptionTable.toList, False) (hlocks : meth.locks = false) (hcell : H[q9]? = some ce) (hv : ce.vm = .none) (hcl : s.vm.findClass E = some ce.cls) (hB : XB E) (hP : va_P D vwCl ws H) (hK : va_K D vwCl tc s) (hD : va_D A ws) (hS : va_S A s.heap H locs) (hf : ∀ q, A q → free q) (hc : cells ≤ mc) (hs : slots ≤ ms) :
    vx_W p l e R s m args below meth c H locs cells slots (vx_MQ below Qc (XE XB D tc A ws) args s mc ms free) (F0 m pc ls rest) q9 :=
  vx_out (fun x hx => (ht x hx).elim) hlocks hcell hv hcl (fun t hth hvm => ⟨(), trivial, ⟨hB, by rw [hth]; exact hP, va_K.moved hvm hK, hD⟩, hS.F hth⟩) (fun z hz => hf _ (hS.2.2 z hz)) hc hs
end THROW
/-- a method with a table of its own that lets nothing out -/
theorem kMet_H {l : Launch} {y : MethodName} {ws ws' : List Cond} {rm : Room} {Pc : Array Value → State → Prop} {Qc : Array Value → State → Outcome → State → Prop} {mc ms : Nat} {free : Addr → Prop} {cc : ByteArray} {maxL : Nat} {ret : Option FieldType} {hh : List (Nat × Nat × Nat × Nat)}
    (hy : plainName y.cls = true) (hw : ws = Cond.codeWith y cc maxL ret hh :: ws')
    (body : ∀ p e s m args below meth c s₁, BodyLoose p l y (headSpec ws rm) cc maxL ret e s m args below meth c s₁ → c.maxLocals = maxL → c.exceptionTable.toList = tableOf hh → Pc args s →
      W p l e (headSpec ws rm).room s m args below meth c s.heap [] 0 0 (MQ below Qc args s mc ms free) (entryFrame m args maxL)) : Met l y ws rm Pc Qc mc ms free := by
  refine MetFree.of_bodyS (code := cc) (maxLocals := maxL) (ret := ret) hy ?_ ?_
  · intro args s m h hn
    obtain ⟨m9, meth, c, hn9, h1, h2, h3, h4, -, h5, h6, -⟩ := Cond.codeWith_spec (atoms_spec (ws := ws) h _ (by rw [hw]; exact List.mem_cons_self))
    cases hn.symm.trans hn9
    exact ⟨meth, c, h1, h2, h3, h4, h5, h6⟩
  · intro p e s m args below meth c s₁ B hml hP _
    have hh0 : s₁.heap = s.heap := by rw [B.state]; rfl
    have htab := vx_table (x := y) B (atoms_spec (ws := ws) B.pre _ (by rw [hw]; exact List.mem_cons_self))
    obtain ⟨t, a1, o, b1, b2, b3⟩ := body p e s m args below meth c s₁ B hml htab hP s₁ hh0 (Stand.of_body B)
    exact ⟨t, o, a1, b1, b2, b3⟩
